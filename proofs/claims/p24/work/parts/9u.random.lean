/-! WidowWatchLaw.randomBook(LWidowWatch;[ILWidowWatchLaw$Random;)LWidowWatchLaw$Book; -/
theorem dL_randomBook_0 : decode cL_randomBook 0 = .ok (.new 110, 3) := by decide +kernel
theorem dL_randomBook_3 : decode cL_randomBook 3 = .ok (.dup, 1) := by decide +kernel
theorem dL_randomBook_4 : decode cL_randomBook 4 = .ok (.invokespecial 112, 3) := by decide +kernel
theorem dL_randomBook_7 : decode cL_randomBook 7 = .ok (.astore_n 3, 1) := by decide +kernel
theorem dL_randomBook_8 : decode cL_randomBook 8 = .ok (.aload_n 3, 1) := by decide +kernel
theorem dL_randomBook_9 : decode cL_randomBook 9 = .ok (.bipush 10, 2) := by decide +kernel
theorem dL_randomBook_11 : decode cL_randomBook 11 = .ok (.aload_n 2, 1) := by decide +kernel
theorem dL_randomBook_12 : decode cL_randomBook 12 = .ok (.bipush 8, 2) := by decide +kernel
theorem dL_randomBook_14 : decode cL_randomBook 14 = .ok (.invokevirtual 113, 3) := by decide +kernel
theorem dL_randomBook_17 : decode cL_randomBook 17 = .ok (.iadd, 1) := by decide +kernel
theorem dL_randomBook_18 : decode cL_randomBook 18 = .ok (.putfield 118, 3) := by decide +kernel
theorem dL_randomBook_21 : decode cL_randomBook 21 = .ok (.aload_n 3, 1) := by decide +kernel
theorem dL_randomBook_22 : decode cL_randomBook 22 = .ok (.iconst 2, 1) := by decide +kernel
theorem dL_randomBook_23 : decode cL_randomBook 23 = .ok (.aload_n 2, 1) := by decide +kernel
theorem dL_randomBook_24 : decode cL_randomBook 24 = .ok (.iconst 3, 1) := by decide +kernel
theorem dL_randomBook_25 : decode cL_randomBook 25 = .ok (.invokevirtual 113, 3) := by decide +kernel
theorem dL_randomBook_28 : decode cL_randomBook 28 = .ok (.iadd, 1) := by decide +kernel
theorem dL_randomBook_29 : decode cL_randomBook 29 = .ok (.putfield 122, 3) := by decide +kernel
theorem dL_randomBook_32 : decode cL_randomBook 32 = .ok (.aload_n 3, 1) := by decide +kernel
theorem dL_randomBook_33 : decode cL_randomBook 33 = .ok (.aload_n 2, 1) := by decide +kernel
theorem dL_randomBook_34 : decode cL_randomBook 34 = .ok (.iconst 5, 1) := by decide +kernel
theorem dL_randomBook_35 : decode cL_randomBook 35 = .ok (.invokevirtual 113, 3) := by decide +kernel
theorem dL_randomBook_38 : decode cL_randomBook 38 = .ok (.putfield 125, 3) := by decide +kernel
theorem dL_randomBook_41 : decode cL_randomBook 41 = .ok (.aload_n 0, 1) := by decide +kernel
theorem dL_randomBook_42 : decode cL_randomBook 42 = .ok (.aload_n 1, 1) := by decide +kernel
theorem dL_randomBook_43 : decode cL_randomBook 43 = .ok (.ldc 128, 2) := by decide +kernel
theorem dL_randomBook_45 : decode cL_randomBook 45 = .ok (.iconst 3, 1) := by decide +kernel
theorem dL_randomBook_46 : decode cL_randomBook 46 = .ok (.newarray .int, 2) := by decide +kernel
theorem dL_randomBook_48 : decode cL_randomBook 48 = .ok (.dup, 1) := by decide +kernel
theorem dL_randomBook_49 : decode cL_randomBook 49 = .ok (.iconst 0, 1) := by decide +kernel
theorem dL_randomBook_50 : decode cL_randomBook 50 = .ok (.aload_n 3, 1) := by decide +kernel
theorem dL_randomBook_51 : decode cL_randomBook 51 = .ok (.getfield 118, 3) := by decide +kernel
theorem dL_randomBook_54 : decode cL_randomBook 54 = .ok (.iastore, 1) := by decide +kernel
theorem dL_randomBook_55 : decode cL_randomBook 55 = .ok (.dup, 1) := by decide +kernel
theorem dL_randomBook_56 : decode cL_randomBook 56 = .ok (.iconst 1, 1) := by decide +kernel
theorem dL_randomBook_57 : decode cL_randomBook 57 = .ok (.aload_n 3, 1) := by decide +kernel
theorem dL_randomBook_58 : decode cL_randomBook 58 = .ok (.getfield 122, 3) := by decide +kernel
theorem dL_randomBook_61 : decode cL_randomBook 61 = .ok (.iastore, 1) := by decide +kernel
theorem dL_randomBook_62 : decode cL_randomBook 62 = .ok (.dup, 1) := by decide +kernel
theorem dL_randomBook_63 : decode cL_randomBook 63 = .ok (.iconst 2, 1) := by decide +kernel
theorem dL_randomBook_64 : decode cL_randomBook 64 = .ok (.aload_n 3, 1) := by decide +kernel
theorem dL_randomBook_65 : decode cL_randomBook 65 = .ok (.getfield 125, 3) := by decide +kernel
theorem dL_randomBook_68 : decode cL_randomBook 68 = .ok (.iastore, 1) := by decide +kernel
theorem dL_randomBook_69 : decode cL_randomBook 69 = .ok (.invokestatic 130, 3) := by decide +kernel
theorem dL_randomBook_72 : decode cL_randomBook 72 = .ok (.aload_n 2, 1) := by decide +kernel
theorem dL_randomBook_73 : decode cL_randomBook 73 = .ok (.iconst 2, 1) := by decide +kernel
theorem dL_randomBook_74 : decode cL_randomBook 74 = .ok (.invokevirtual 113, 3) := by decide +kernel
theorem dL_randomBook_77 : decode cL_randomBook 77 = .ok (.ifCond .ne 29, 3) := by decide +kernel
theorem dL_randomBook_80 : decode cL_randomBook 80 = .ok (.aload_n 3, 1) := by decide +kernel
theorem dL_randomBook_81 : decode cL_randomBook 81 = .ok (.aload_n 2, 1) := by decide +kernel
theorem dL_randomBook_82 : decode cL_randomBook 82 = .ok (.iconst 3, 1) := by decide +kernel
theorem dL_randomBook_83 : decode cL_randomBook 83 = .ok (.invokevirtual 113, 3) := by decide +kernel
theorem dL_randomBook_86 : decode cL_randomBook 86 = .ok (.putfield 134, 3) := by decide +kernel
theorem dL_randomBook_89 : decode cL_randomBook 89 = .ok (.aload_n 0, 1) := by decide +kernel
theorem dL_randomBook_90 : decode cL_randomBook 90 = .ok (.aload_n 1, 1) := by decide +kernel
theorem dL_randomBook_91 : decode cL_randomBook 91 = .ok (.ldc 137, 2) := by decide +kernel
theorem dL_randomBook_93 : decode cL_randomBook 93 = .ok (.iconst 1, 1) := by decide +kernel
theorem dL_randomBook_94 : decode cL_randomBook 94 = .ok (.newarray .int, 2) := by decide +kernel
theorem dL_randomBook_96 : decode cL_randomBook 96 = .ok (.dup, 1) := by decide +kernel
theorem dL_randomBook_97 : decode cL_randomBook 97 = .ok (.iconst 0, 1) := by decide +kernel
theorem dL_randomBook_98 : decode cL_randomBook 98 = .ok (.aload_n 3, 1) := by decide +kernel
theorem dL_randomBook_99 : decode cL_randomBook 99 = .ok (.getfield 134, 3) := by decide +kernel
theorem dL_randomBook_102 : decode cL_randomBook 102 = .ok (.iastore, 1) := by decide +kernel
theorem dL_randomBook_103 : decode cL_randomBook 103 = .ok (.invokestatic 130, 3) := by decide +kernel
theorem dL_randomBook_106 : decode cL_randomBook 106 = .ok (.aload_n 2, 1) := by decide +kernel
theorem dL_randomBook_107 : decode cL_randomBook 107 = .ok (.iconst 4, 1) := by decide +kernel
theorem dL_randomBook_108 : decode cL_randomBook 108 = .ok (.invokevirtual 113, 3) := by decide +kernel
theorem dL_randomBook_111 : decode cL_randomBook 111 = .ok (.istore 4, 2) := by decide +kernel
theorem dL_randomBook_113 : decode cL_randomBook 113 = .ok (.iconst 0, 1) := by decide +kernel
theorem dL_randomBook_114 : decode cL_randomBook 114 = .ok (.istore 5, 2) := by decide +kernel
theorem dL_randomBook_116 : decode cL_randomBook 116 = .ok (.iload 5, 2) := by decide +kernel
theorem dL_randomBook_118 : decode cL_randomBook 118 = .ok (.iload 4, 2) := by decide +kernel
theorem dL_randomBook_120 : decode cL_randomBook 120 = .ok (.if_icmp .ge 166, 3) := by decide +kernel
theorem dL_randomBook_123 : decode cL_randomBook 123 = .ok (.new 138, 3) := by decide +kernel
theorem dL_randomBook_126 : decode cL_randomBook 126 = .ok (.dup, 1) := by decide +kernel
theorem dL_randomBook_127 : decode cL_randomBook 127 = .ok (.invokespecial 140, 3) := by decide +kernel
theorem dL_randomBook_130 : decode cL_randomBook 130 = .ok (.astore 6, 2) := by decide +kernel
theorem dL_randomBook_132 : decode cL_randomBook 132 = .ok (.aload 6, 2) := by decide +kernel
theorem dL_randomBook_134 : decode cL_randomBook 134 = .ok (.aload_n 2, 1) := by decide +kernel
theorem dL_randomBook_135 : decode cL_randomBook 135 = .ok (.iconst 4, 1) := by decide +kernel
theorem dL_randomBook_136 : decode cL_randomBook 136 = .ok (.invokevirtual 113, 3) := by decide +kernel
theorem dL_randomBook_139 : decode cL_randomBook 139 = .ok (.ifCond .ne 7, 3) := by decide +kernel
theorem dL_randomBook_142 : decode cL_randomBook 142 = .ok (.iconst 1, 1) := by decide +kernel
theorem dL_randomBook_143 : decode cL_randomBook 143 = .ok (.goto 4, 3) := by decide +kernel
theorem dL_randomBook_146 : decode cL_randomBook 146 = .ok (.iconst 0, 1) := by decide +kernel
theorem dL_randomBook_147 : decode cL_randomBook 147 = .ok (.putfield 141, 3) := by decide +kernel
theorem dL_randomBook_150 : decode cL_randomBook 150 = .ok (.aload 6, 2) := by decide +kernel
theorem dL_randomBook_152 : decode cL_randomBook 152 = .ok (.aload_n 2, 1) := by decide +kernel
theorem dL_randomBook_153 : decode cL_randomBook 153 = .ok (.iconst 5, 1) := by decide +kernel
theorem dL_randomBook_154 : decode cL_randomBook 154 = .ok (.invokevirtual 113, 3) := by decide +kernel
theorem dL_randomBook_157 : decode cL_randomBook 157 = .ok (.ifCond .ne 7, 3) := by decide +kernel
theorem dL_randomBook_160 : decode cL_randomBook 160 = .ok (.iconst 1, 1) := by decide +kernel
theorem dL_randomBook_161 : decode cL_randomBook 161 = .ok (.goto 4, 3) := by decide +kernel
theorem dL_randomBook_164 : decode cL_randomBook 164 = .ok (.iconst 0, 1) := by decide +kernel
theorem dL_randomBook_165 : decode cL_randomBook 165 = .ok (.putfield 145, 3) := by decide +kernel
theorem dL_randomBook_168 : decode cL_randomBook 168 = .ok (.iconst 1, 1) := by decide +kernel
theorem dL_randomBook_169 : decode cL_randomBook 169 = .ok (.aload_n 2, 1) := by decide +kernel
theorem dL_randomBook_170 : decode cL_randomBook 170 = .ok (.iconst 4, 1) := by decide +kernel
theorem dL_randomBook_171 : decode cL_randomBook 171 = .ok (.invokevirtual 113, 3) := by decide +kernel
theorem dL_randomBook_174 : decode cL_randomBook 174 = .ok (.iadd, 1) := by decide +kernel
theorem dL_randomBook_175 : decode cL_randomBook 175 = .ok (.istore 7, 2) := by decide +kernel
theorem dL_randomBook_177 : decode cL_randomBook 177 = .ok (.iload 7, 2) := by decide +kernel
theorem dL_randomBook_179 : decode cL_randomBook 179 = .ok (.ifCond .le 37, 3) := by decide +kernel
theorem dL_randomBook_182 : decode cL_randomBook 182 = .ok (.aload 6, 2) := by decide +kernel
theorem dL_randomBook_184 : decode cL_randomBook 184 = .ok (.aload 6, 2) := by decide +kernel
theorem dL_randomBook_186 : decode cL_randomBook 186 = .ok (.getfield 148, 3) := by decide +kernel
theorem dL_randomBook_189 : decode cL_randomBook 189 = .ok (.iconst 1, 1) := by decide +kernel
theorem dL_randomBook_190 : decode cL_randomBook 190 = .ok (.aload_n 2, 1) := by decide +kernel
theorem dL_randomBook_191 : decode cL_randomBook 191 = .ok (.aload_n 3, 1) := by decide +kernel
theorem dL_randomBook_192 : decode cL_randomBook 192 = .ok (.getfield 118, 3) := by decide +kernel
theorem dL_randomBook_195 : decode cL_randomBook 195 = .ok (.aload_n 3, 1) := by decide +kernel
theorem dL_randomBook_196 : decode cL_randomBook 196 = .ok (.getfield 125, 3) := by decide +kernel
theorem dL_randomBook_199 : decode cL_randomBook 199 = .ok (.isub, 1) := by decide +kernel
theorem dL_randomBook_200 : decode cL_randomBook 200 = .ok (.invokevirtual 113, 3) := by decide +kernel
theorem dL_randomBook_203 : decode cL_randomBook 203 = .ok (.iadd, 1) := by decide +kernel
theorem dL_randomBook_204 : decode cL_randomBook 204 = .ok (.invokestatic 152, 3) := by decide +kernel
theorem dL_randomBook_207 : decode cL_randomBook 207 = .ok (.putfield 148, 3) := by decide +kernel
theorem dL_randomBook_210 : decode cL_randomBook 210 = .ok (.iinc 7 (-1), 3) := by decide +kernel
theorem dL_randomBook_213 : decode cL_randomBook 213 = .ok (.goto (-36), 3) := by decide +kernel
theorem dL_randomBook_216 : decode cL_randomBook 216 = .ok (.aload_n 0, 1) := by decide +kernel
theorem dL_randomBook_217 : decode cL_randomBook 217 = .ok (.aload_n 1, 1) := by decide +kernel
theorem dL_randomBook_218 : decode cL_randomBook 218 = .ok (.new 156, 3) := by decide +kernel
theorem dL_randomBook_221 : decode cL_randomBook 221 = .ok (.dup, 1) := by decide +kernel
theorem dL_randomBook_222 : decode cL_randomBook 222 = .ok (.invokespecial 158, 3) := by decide +kernel
theorem dL_randomBook_225 : decode cL_randomBook 225 = .ok (.aload 6, 2) := by decide +kernel
theorem dL_randomBook_227 : decode cL_randomBook 227 = .ok (.getfield 141, 3) := by decide +kernel
theorem dL_randomBook_230 : decode cL_randomBook 230 = .ok (.ifCond .eq 8, 3) := by decide +kernel
theorem dL_randomBook_233 : decode cL_randomBook 233 = .ok (.ldc 159, 2) := by decide +kernel
theorem dL_randomBook_235 : decode cL_randomBook 235 = .ok (.goto 5, 3) := by decide +kernel
theorem dL_randomBook_238 : decode cL_randomBook 238 = .ok (.ldc 161, 2) := by decide +kernel
theorem dL_randomBook_240 : decode cL_randomBook 240 = .ok (.invokevirtual 163, 3) := by decide +kernel
theorem dL_randomBook_243 : decode cL_randomBook 243 = .ok (.aload 6, 2) := by decide +kernel
theorem dL_randomBook_245 : decode cL_randomBook 245 = .ok (.getfield 145, 3) := by decide +kernel
theorem dL_randomBook_248 : decode cL_randomBook 248 = .ok (.ifCond .eq 8, 3) := by decide +kernel
theorem dL_randomBook_251 : decode cL_randomBook 251 = .ok (.ldc 166, 2) := by decide +kernel
theorem dL_randomBook_253 : decode cL_randomBook 253 = .ok (.goto 5, 3) := by decide +kernel
theorem dL_randomBook_256 : decode cL_randomBook 256 = .ok (.ldc 168, 2) := by decide +kernel
theorem dL_randomBook_258 : decode cL_randomBook 258 = .ok (.invokevirtual 163, 3) := by decide +kernel
theorem dL_randomBook_261 : decode cL_randomBook 261 = .ok (.invokevirtual 170, 3) := by decide +kernel
theorem dL_randomBook_264 : decode cL_randomBook 264 = .ok (.aload 6, 2) := by decide +kernel
theorem dL_randomBook_266 : decode cL_randomBook 266 = .ok (.getfield 148, 3) := by decide +kernel
theorem dL_randomBook_269 : decode cL_randomBook 269 = .ok (.invokestatic 130, 3) := by decide +kernel
theorem dL_randomBook_272 : decode cL_randomBook 272 = .ok (.aload_n 3, 1) := by decide +kernel
theorem dL_randomBook_273 : decode cL_randomBook 273 = .ok (.iload 5, 2) := by decide +kernel
theorem dL_randomBook_275 : decode cL_randomBook 275 = .ok (.aload 6, 2) := by decide +kernel
theorem dL_randomBook_277 : decode cL_randomBook 277 = .ok (.invokevirtual 174, 3) := by decide +kernel
theorem dL_randomBook_280 : decode cL_randomBook 280 = .ok (.iinc 5 1, 3) := by decide +kernel
theorem dL_randomBook_283 : decode cL_randomBook 283 = .ok (.goto (-167), 3) := by decide +kernel
theorem dL_randomBook_286 : decode cL_randomBook 286 = .ok (.aload_n 2, 1) := by decide +kernel
theorem dL_randomBook_287 : decode cL_randomBook 287 = .ok (.iconst 2, 1) := by decide +kernel
theorem dL_randomBook_288 : decode cL_randomBook 288 = .ok (.invokevirtual 113, 3) := by decide +kernel
theorem dL_randomBook_291 : decode cL_randomBook 291 = .ok (.ifCond .ne 43, 3) := by decide +kernel
theorem dL_randomBook_294 : decode cL_randomBook 294 = .ok (.iconst 0, 1) := by decide +kernel
theorem dL_randomBook_295 : decode cL_randomBook 295 = .ok (.istore 5, 2) := by decide +kernel
theorem dL_randomBook_297 : decode cL_randomBook 297 = .ok (.iload 5, 2) := by decide +kernel
theorem dL_randomBook_299 : decode cL_randomBook 299 = .ok (.bipush 6, 2) := by decide +kernel
theorem dL_randomBook_301 : decode cL_randomBook 301 = .ok (.if_icmp .ge 22, 3) := by decide +kernel
theorem dL_randomBook_304 : decode cL_randomBook 304 = .ok (.aload_n 3, 1) := by decide +kernel
theorem dL_randomBook_305 : decode cL_randomBook 305 = .ok (.getfield 178, 3) := by decide +kernel
theorem dL_randomBook_308 : decode cL_randomBook 308 = .ok (.iload 5, 2) := by decide +kernel
theorem dL_randomBook_310 : decode cL_randomBook 310 = .ok (.aload_n 2, 1) := by decide +kernel
theorem dL_randomBook_311 : decode cL_randomBook 311 = .ok (.bipush 30, 2) := by decide +kernel
theorem dL_randomBook_313 : decode cL_randomBook 313 = .ok (.invokevirtual 113, 3) := by decide +kernel
theorem dL_randomBook_316 : decode cL_randomBook 316 = .ok (.iastore, 1) := by decide +kernel
theorem dL_randomBook_317 : decode cL_randomBook 317 = .ok (.iinc 5 1, 3) := by decide +kernel
theorem dL_randomBook_320 : decode cL_randomBook 320 = .ok (.goto (-23), 3) := by decide +kernel
theorem dL_randomBook_323 : decode cL_randomBook 323 = .ok (.aload_n 0, 1) := by decide +kernel
theorem dL_randomBook_324 : decode cL_randomBook 324 = .ok (.aload_n 1, 1) := by decide +kernel
theorem dL_randomBook_325 : decode cL_randomBook 325 = .ok (.ldc 181, 2) := by decide +kernel
theorem dL_randomBook_327 : decode cL_randomBook 327 = .ok (.aload_n 3, 1) := by decide +kernel
theorem dL_randomBook_328 : decode cL_randomBook 328 = .ok (.getfield 178, 3) := by decide +kernel
theorem dL_randomBook_331 : decode cL_randomBook 331 = .ok (.invokestatic 130, 3) := by decide +kernel
theorem dL_randomBook_334 : decode cL_randomBook 334 = .ok (.aload_n 0, 1) := by decide +kernel
theorem dL_randomBook_335 : decode cL_randomBook 335 = .ok (.aload_n 1, 1) := by decide +kernel
theorem dL_randomBook_336 : decode cL_randomBook 336 = .ok (.invokestatic 182, 3) := by decide +kernel
theorem dL_randomBook_339 : decode cL_randomBook 339 = .ok (.iload 4, 2) := by decide +kernel
theorem dL_randomBook_341 : decode cL_randomBook 341 = .ok (.if_icmp .ne 7, 3) := by decide +kernel
theorem dL_randomBook_344 : decode cL_randomBook 344 = .ok (.aload_n 3, 1) := by decide +kernel
theorem dL_randomBook_345 : decode cL_randomBook 345 = .ok (.goto 4, 3) := by decide +kernel
theorem dL_randomBook_348 : decode cL_randomBook 348 = .ok (.aconst_null, 1) := by decide +kernel
theorem dL_randomBook_349 : decode cL_randomBook 349 = .ok (.areturn, 1) := by decide +kernel
theorem okL_randomBook : okY yL_randomBook 3 := ⟨by decide +kernel, by decide +kernel, by decide +kernel⟩
def wpL_randomBook_b334 (cB : Nat) (Post : Nat → ivS → Mu → Prop)  (S : ivS) (mu : Mu) (u : Nat) (v1 : Nat) (v3 : Nat) (v4 : Int32) : Prop := ∃ q42, u + q42 ≤ cB ∧ wpL_loadText q42 S mu v1 (fun r42 S42 mu42 => (¬ r42 = v4 → False) ∧ (r42 = v4 → (u + q42) ≤ cB ∧ Post v3 S42 mu42))
def wpL_randomBook_L297 (cB : Nat) (Post : Nat → ivS → Mu → Prop)  : Nat → ivS → Mu → Nat → Nat → Nat → Nat → Int32 → Int32 → Prop
  | 0 => fun _ _ _ _ _ _ _ _ => False
  | nn297 + 1 => fun S mu u v1 v2 v3 v4 v5 => ((6 : Int32) ≤ v5 → ∃ x43, mB mu v3 = some x43 ∧ ∃ a43, x43.2.2.2.2.1 = some a43 ∧ ∃ q44, u + q44 ≤ cB ∧ wpL_writeAll_K q44 S mu v1 1 a43 (fun S44 mu44 => wpL_randomBook_b334 cB Post  S44 mu44 (u + q44) v1 v3 v4)) ∧ (¬ (6 : Int32) ≤ v5 → ∃ x45, mB mu v3 = some x45 ∧ ∃ a45, x45.2.2.2.2.1 = some a45 ∧ ∃ x46, mR mu v2 = some x46 ∧ u ≤ cB ∧ wpX10_below mu v2 (30 : Int32) (fun r47 mu48 => ∃ n49 f49 k49, mI mu48 a45 = some (n49, f49) ∧ v5 = nI k49 ∧ k49 < n49 ∧ n49 ≤ 1000 ∧ ∀ mu50, mu50 = sI mu48 a45 (n49, upd f49 k49 r47) → (wpL_randomBook_L297 cB Post  nn297) S mu50 u v1 v2 v3 v4 (v5 + (1 : Int32))))
def wpL_randomBook_L177 (cB : Nat) (Post : Nat → ivS → Mu → Prop) (K116 : ivS → Mu → Nat → Nat → Nat → Nat → Int32 → Int32 → Prop) : Nat → ivS → Mu → Nat → Nat → Nat → Nat → Int32 → Int32 → Nat → Int32 → Prop
  | 0 => fun _ _ _ _ _ _ _ _ _ _ => False
  | nn177 + 1 => fun S mu u v1 v2 v3 v4 v5 v6 v7 => (v7 ≤ 0 → u + 1 ≤ cB ∧ ∀ a69, frM mu a69 → ∀ mu70, mu70 = sG mu a69 (none, 0, 0, 0) → ∃ q72, (u + 1) + q72 ≤ cB ∧ wpJ4_init_da8c8 q72 mu70 a69 (fun mu73 => ∃ x74, mP mu73 v6 = some x74 ∧ (x74.1 = 0 → ∃ x75, mG mu73 a69 = some x75 ∧ ((u + 1) + q72) ≤ cB ∧ wpJ4_append_15ec4_K mu73 a69 3 (fun r76 mu77 => ∃ x78, mP mu77 v6 = some x78 ∧ (x78.2.1 = 0 → ∃ x79, mG mu77 r76 = some x79 ∧ ((u + 1) + q72) ≤ cB ∧ wpJ4_append_15ec4_K mu77 r76 9 (fun r80 mu81 => ∃ x82, mG mu81 r80 = some x82 ∧ ∃ q84, ((u + 1) + q72) + q84 ≤ cB ∧ wpJ4_toString_0e30d q84 mu81 r80 (fun r83 mu85 => ∃ x86, mP mu85 v6 = some x86 ∧ ∃ a86, x86.2.2.2 = some a86 ∧ ∃ q87, (((u + 1) + q72) + q84) + q87 ≤ cB ∧ wpL_writeAll_D q87 S mu85 v1 r83 a86 (fun S87 mu87 => ∃ x88, mB mu87 v3 = some x88 ∧ ∃ q90, ((((u + 1) + q72) + q84) + q87) + q90 ≤ cB ∧ wpX7_adds q90 mu87 v3 v5 v6 (fun mu91 => K116 S87 mu91 (((((u + 1) + q72) + q84) + q87) + q90) v1 v2 v3 v4 (v5 + (1 : Int32))))))) ∧ (¬ x78.2.1 = 0 → ∃ x92, mG mu77 r76 = some x92 ∧ ((u + 1) + q72) ≤ cB ∧ wpJ4_append_15ec4_K mu77 r76 8 (fun r93 mu94 => ∃ x95, mG mu94 r93 = some x95 ∧ ∃ q97, ((u + 1) + q72) + q97 ≤ cB ∧ wpJ4_toString_0e30d q97 mu94 r93 (fun r96 mu98 => ∃ x99, mP mu98 v6 = some x99 ∧ ∃ a99, x99.2.2.2 = some a99 ∧ ∃ q100, (((u + 1) + q72) + q97) + q100 ≤ cB ∧ wpL_writeAll_D q100 S mu98 v1 r96 a99 (fun S100 mu100 => ∃ x101, mB mu100 v3 = some x101 ∧ ∃ q103, ((((u + 1) + q72) + q97) + q100) + q103 ≤ cB ∧ wpX7_adds q103 mu100 v3 v5 v6 (fun mu104 => K116 S100 mu104 (((((u + 1) + q72) + q97) + q100) + q103) v1 v2 v3 v4 (v5 + (1 : Int32))))))))) ∧ (¬ x74.1 = 0 → ∃ x105, mG mu73 a69 = some x105 ∧ ((u + 1) + q72) ≤ cB ∧ wpJ4_append_15ec4_K mu73 a69 5 (fun r106 mu107 => ∃ x108, mP mu107 v6 = some x108 ∧ (x108.2.1 = 0 → ∃ x109, mG mu107 r106 = some x109 ∧ ((u + 1) + q72) ≤ cB ∧ wpJ4_append_15ec4_K mu107 r106 9 (fun r110 mu111 => ∃ x112, mG mu111 r110 = some x112 ∧ ∃ q114, ((u + 1) + q72) + q114 ≤ cB ∧ wpJ4_toString_0e30d q114 mu111 r110 (fun r113 mu115 => ∃ x116, mP mu115 v6 = some x116 ∧ ∃ a116, x116.2.2.2 = some a116 ∧ ∃ q117, (((u + 1) + q72) + q114) + q117 ≤ cB ∧ wpL_writeAll_D q117 S mu115 v1 r113 a116 (fun S117 mu117 => ∃ x118, mB mu117 v3 = some x118 ∧ ∃ q120, ((((u + 1) + q72) + q114) + q117) + q120 ≤ cB ∧ wpX7_adds q120 mu117 v3 v5 v6 (fun mu121 => K116 S117 mu121 (((((u + 1) + q72) + q114) + q117) + q120) v1 v2 v3 v4 (v5 + (1 : Int32))))))) ∧ (¬ x108.2.1 = 0 → ∃ x122, mG mu107 r106 = some x122 ∧ ((u + 1) + q72) ≤ cB ∧ wpJ4_append_15ec4_K mu107 r106 8 (fun r123 mu124 => ∃ x125, mG mu124 r123 = some x125 ∧ ∃ q127, ((u + 1) + q72) + q127 ≤ cB ∧ wpJ4_toString_0e30d q127 mu124 r123 (fun r126 mu128 => ∃ x129, mP mu128 v6 = some x129 ∧ ∃ a129, x129.2.2.2 = some a129 ∧ ∃ q130, (((u + 1) + q72) + q127) + q130 ≤ cB ∧ wpL_writeAll_D q130 S mu128 v1 r126 a129 (fun S130 mu130 => ∃ x131, mB mu130 v3 = some x131 ∧ ∃ q133, ((((u + 1) + q72) + q127) + q130) + q133 ≤ cB ∧ wpX7_adds q133 mu130 v3 v5 v6 (fun mu134 => K116 S130 mu134 (((((u + 1) + q72) + q127) + q130) + q133) v1 v2 v3 v4 (v5 + (1 : Int32))))))))))) ∧ (¬ v7 ≤ 0 → ∃ x135, mP mu v6 = some x135 ∧ ∃ a135, x135.2.2.2 = some a135 ∧ ∃ x136, mB mu v3 = some x136 ∧ ∃ x137, mB mu v3 = some x137 ∧ ∃ x138, mR mu v2 = some x138 ∧ u ≤ cB ∧ wpX10_below mu v2 (x136.1 - x137.2.2.1) (fun r139 mu140 => ∃ q142, u + q142 ≤ cB ∧ wpL_with q142 mu140 a135 ((1 : Int32) + r139) (fun r141 mu143 => ∃ x144, mP mu143 v6 = some x144 ∧ ∀ mu145, mu145 = sP mu143 v6 (x144.1, x144.2.1, x144.2.2.1, some r141) → (wpL_randomBook_L177 cB Post K116 nn177) S mu145 (u + q142) v1 v2 v3 v4 v5 v6 (v7 + (-1 : Int32)))))
def wpL_randomBook_b165 (cB : Nat) (Post : Nat → ivS → Mu → Prop) (K116 : ivS → Mu → Nat → Nat → Nat → Nat → Int32 → Int32 → Prop) (S : ivS) (mu : Mu) (u : Nat) (v1 : Nat) (v2 : Nat) (v3 : Nat) (v4 : Int32) (v5 : Int32) (v6 : Nat) (s0 : Nat) (s1 : Int32) : Prop := ∃ x64, mP mu s0 = some x64 ∧ (s1 = 0 ∨ s1 = 1) ∧ ∀ mu65, mu65 = sP mu s0 (x64.1, s1, x64.2.2.1, x64.2.2.2) → ∃ x66, mR mu65 v2 = some x66 ∧ u ≤ cB ∧ wpX10_below mu65 v2 (4 : Int32) (fun r67 mu68 => ∃ m_, wpL_randomBook_L177 cB Post K116 m_ S mu68 u v1 v2 v3 v4 v5 v6 ((1 : Int32) + r67))
def wpL_randomBook_b147 (cB : Nat) (Post : Nat → ivS → Mu → Prop) (K116 : ivS → Mu → Nat → Nat → Nat → Nat → Int32 → Int32 → Prop) (S : ivS) (mu : Mu) (u : Nat) (v1 : Nat) (v2 : Nat) (v3 : Nat) (v4 : Int32) (v5 : Int32) (v6 : Nat) (s0 : Nat) (s1 : Int32) : Prop := ∃ x59, mP mu s0 = some x59 ∧ (s1 = 0 ∨ s1 = 1) ∧ ∀ mu60, mu60 = sP mu s0 (s1, x59.2.1, x59.2.2.1, x59.2.2.2) → ∃ x61, mR mu60 v2 = some x61 ∧ u ≤ cB ∧ wpX10_below mu60 v2 (5 : Int32) (fun r62 mu63 => (¬ r62 = 0 → wpL_randomBook_b165 cB Post K116 S mu63 u v1 v2 v3 v4 v5 v6 v6 (0 : Int32)) ∧ (r62 = 0 → wpL_randomBook_b165 cB Post K116 S mu63 u v1 v2 v3 v4 v5 v6 v6 (1 : Int32)))
def wpL_randomBook_L116 (cB : Nat) (Post : Nat → ivS → Mu → Prop)  : Nat → ivS → Mu → Nat → Nat → Nat → Nat → Int32 → Int32 → Prop
  | 0 => fun _ _ _ _ _ _ _ _ => False
  | nn116 + 1 => fun S mu u v1 v2 v3 v4 v5 => (v4 ≤ v5 → ∃ x39, mR mu v2 = some x39 ∧ u ≤ cB ∧ wpX10_below mu v2 (2 : Int32) (fun r40 mu41 => (¬ r40 = 0 → wpL_randomBook_b334 cB Post  S mu41 u v1 v3 v4) ∧ (r40 = 0 → ∃ m_, wpL_randomBook_L297 cB Post  m_ S mu41 u v1 v2 v3 v4 (0 : Int32)))) ∧ (¬ v4 ≤ v5 → u + 1 ≤ cB ∧ ∀ a51, frM mu a51 → ∀ mu52, mu52 = sP mu a51 (0, 0, 0, none) → ∃ q54, (u + 1) + q54 ≤ cB ∧ wpX8_init q54 mu52 a51 (fun mu55 => ∃ x56, mR mu55 v2 = some x56 ∧ ((u + 1) + q54) ≤ cB ∧ wpX10_below mu55 v2 (4 : Int32) (fun r57 mu58 => (¬ r57 = 0 → wpL_randomBook_b147 cB Post (wpL_randomBook_L116 cB Post  nn116) S mu58 ((u + 1) + q54) v1 v2 v3 v4 v5 a51 a51 (0 : Int32)) ∧ (r57 = 0 → wpL_randomBook_b147 cB Post (wpL_randomBook_L116 cB Post  nn116) S mu58 ((u + 1) + q54) v1 v2 v3 v4 v5 a51 a51 (1 : Int32)))))
def wpL_randomBook_b106 (cB : Nat) (Post : Nat → ivS → Mu → Prop)  (S : ivS) (mu : Mu) (u : Nat) (v1 : Nat) (v2 : Nat) (v3 : Nat) : Prop := ∃ x36, mR mu v2 = some x36 ∧ u ≤ cB ∧ wpX10_below mu v2 (4 : Int32) (fun r37 mu38 => ∃ m_, wpL_randomBook_L116 cB Post  m_ S mu38 u v1 v2 v3 r37 (0 : Int32))
def wpL_randomBook (cB : Nat) (S : ivS) (mu : Mu) (v1 : Nat) (v2 : Nat) (Post : Nat → ivS → Mu → Prop) : Prop := 0 + 1 ≤ cB ∧ ∀ a1, frM mu a1 → ∀ mu2, mu2 = sB mu a1 (0, 0, 0, 0, none, none, none, none, none, 0) → ∃ q4, (0 + 1) + q4 ≤ cB ∧ wpX7_init q4 mu2 a1 (fun mu5 => ∃ x6, mR mu5 v2 = some x6 ∧ ((0 + 1) + q4) ≤ cB ∧ wpX10_below mu5 v2 (8 : Int32) (fun r7 mu8 => ∃ x9, mB mu8 a1 = some x9 ∧ ∀ mu10, mu10 = sB mu8 a1 ((10 : Int32) + r7, x9.2.1, x9.2.2.1, x9.2.2.2.1, x9.2.2.2.2.1, x9.2.2.2.2.2.1, x9.2.2.2.2.2.2.1, x9.2.2.2.2.2.2.2.1, x9.2.2.2.2.2.2.2.2.1, x9.2.2.2.2.2.2.2.2.2) → ∃ x11, mR mu10 v2 = some x11 ∧ ((0 + 1) + q4) ≤ cB ∧ wpX10_below mu10 v2 (3 : Int32) (fun r12 mu13 => ∃ x14, mB mu13 a1 = some x14 ∧ ∀ mu15, mu15 = sB mu13 a1 (x14.1, (2 : Int32) + r12, x14.2.2.1, x14.2.2.2.1, x14.2.2.2.2.1, x14.2.2.2.2.2.1, x14.2.2.2.2.2.2.1, x14.2.2.2.2.2.2.2.1, x14.2.2.2.2.2.2.2.2.1, x14.2.2.2.2.2.2.2.2.2) → ∃ x16, mR mu15 v2 = some x16 ∧ ((0 + 1) + q4) ≤ cB ∧ wpX10_below mu15 v2 (5 : Int32) (fun r17 mu18 => ∃ x19, mB mu18 a1 = some x19 ∧ ∀ mu20, mu20 = sB mu18 a1 (x19.1, x19.2.1, r17, x19.2.2.2.1, x19.2.2.2.2.1, x19.2.2.2.2.2.1, x19.2.2.2.2.2.2.1, x19.2.2.2.2.2.2.2.1, x19.2.2.2.2.2.2.2.2.1, x19.2.2.2.2.2.2.2.2.2) → ∃ n21, (3 : Int32) = nI n21 ∧ n21 ≤ 1000 ∧ ((0 + 1) + q4) + (1 + n21 / 16) ≤ cB ∧ ∀ a21, frM mu20 a21 → ∀ mu22, mu22 = sI mu20 a21 (n21, fun _ => 0) → ∃ x23, mB mu22 a1 = some x23 ∧ ∃ n24 f24 k24, mI mu22 a21 = some (n24, f24) ∧ (0 : Int32) = nI k24 ∧ k24 < n24 ∧ n24 ≤ 1000 ∧ ∀ mu25, mu25 = sI mu22 a21 (n24, upd f24 k24 x23.1) → ∃ x26, mB mu25 a1 = some x26 ∧ ∃ n27 f27 k27, mI mu25 a21 = some (n27, f27) ∧ (1 : Int32) = nI k27 ∧ k27 < n27 ∧ n27 ≤ 1000 ∧ ∀ mu28, mu28 = sI mu25 a21 (n27, upd f27 k27 x26.2.1) → ∃ x29, mB mu28 a1 = some x29 ∧ ∃ n30 f30 k30, mI mu28 a21 = some (n30, f30) ∧ (2 : Int32) = nI k30 ∧ k30 < n30 ∧ n30 ≤ 1000 ∧ ∀ mu31, mu31 = sI mu28 a21 (n30, upd f30 k30 x29.2.2.1) → ∃ q32, (((0 + 1) + q4) + (1 + n21 / 16)) + q32 ≤ cB ∧ wpL_writeAll_K q32 S mu31 v1 0 a21 (fun S32 mu32 => ∃ x33, mR mu32 v2 = some x33 ∧ ((((0 + 1) + q4) + (1 + n21 / 16)) + q32) ≤ cB ∧ wpX10_below mu32 v2 (2 : Int32) (fun r34 mu35 => (¬ r34 = 0 → wpL_randomBook_b106 cB Post  S32 mu35 ((((0 + 1) + q4) + (1 + n21 / 16)) + q32) v1 v2 a1) ∧ (r34 = 0 → ∃ x146, mR mu35 v2 = some x146 ∧ ((((0 + 1) + q4) + (1 + n21 / 16)) + q32) ≤ cB ∧ wpX10_below mu35 v2 (3 : Int32) (fun r147 mu148 => ∃ x149, mB mu148 a1 = some x149 ∧ ∀ mu150, mu150 = sB mu148 a1 (x149.1, x149.2.1, x149.2.2.1, r147, x149.2.2.2.2.1, x149.2.2.2.2.2.1, x149.2.2.2.2.2.2.1, x149.2.2.2.2.2.2.2.1, x149.2.2.2.2.2.2.2.2.1, x149.2.2.2.2.2.2.2.2.2) → ∃ n151, (1 : Int32) = nI n151 ∧ n151 ≤ 1000 ∧ ((((0 + 1) + q4) + (1 + n21 / 16)) + q32) + (1 + n151 / 16) ≤ cB ∧ ∀ a151, frM mu150 a151 → ∀ mu152, mu152 = sI mu150 a151 (n151, fun _ => 0) → ∃ x153, mB mu152 a1 = some x153 ∧ ∃ n154 f154 k154, mI mu152 a151 = some (n154, f154) ∧ (0 : Int32) = nI k154 ∧ k154 < n154 ∧ n154 ≤ 1000 ∧ ∀ mu155, mu155 = sI mu152 a151 (n154, upd f154 k154 x153.2.2.2.1) → ∃ q156, (((((0 + 1) + q4) + (1 + n21 / 16)) + q32) + (1 + n151 / 16)) + q156 ≤ cB ∧ wpL_writeAll_K q156 S32 mu155 v1 2 a151 (fun S156 mu156 => wpL_randomBook_b106 cB Post  S156 mu156 ((((((0 + 1) + q4) + (1 + n21 / 16)) + q32) + (1 + n151 / 16)) + q156) v1 v2 a1)))))))))
set_option maxHeartbeats 4000000 in
set_option maxRecDepth 100000 in
theorem conL_randomBook (l : Launch) (D : va_G) (cA : Nat → ClassId) (h ab ac ar : Nat → Nat) (hst : l.stackTraces = false) (cB : Nat) (S : ivS) (mu : Mu) (v1 : Nat) (v2 : Nat) (Post : Nat → ivS → Mu → Prop)  (H : wpL_randomBook cB S mu v1 v2 Post) {w0 ws0 : va_W} (hI : ivI cA h ab ac ar S false w0) (hR : LR cA w0 ws0 mu) : ConW l D cA yL_randomBook (wm yL_randomBook cL_randomBook 8 (some (.object "WidowWatchLaw$Book"))) { frames := 11, cells := cB, slots := 16 * cB, locals := 244 } ws0 [.ref (h 0), .ref v1, .ref v2] cB (16 * cB) (PR (fun r w2 => ∃ w1 S1 m1, ivI cA h ab ac ar S1 false w1 ∧ LR cA w1 w2 m1 ∧ Post r S1 m1)) := by
  refine ConW.of (by decide) (Nat.le_of_ble_eq_true rfl) ?_
  intro p e s m args below meth c C hE hF hr hini
  have hRm : cB ≤ ({ frames := 11, cells := cB, slots := 16 * cB, locals := 244 } : Room).cells ∧ 16 * cB ≤ ({ frames := 11, cells := cB, slots := 16 * cB, locals := 244 } : Room).slots := ⟨Nat.le_refl _, Nat.le_refl _⟩
  have B334 : ∀  (ws w : va_W) (S : ivS) (mu : Mu) (u : Nat) (v1 : Nat) (v3 : Nat) (v4 : Int32), ivI cA h ab ac ar S false w → LR cA w ws mu → wpL_randomBook_b334 cB Post  S mu u v1 v3 v4 → Kf p l e { frames := 11, cells := cB, slots := 16 * cB, locals := 244 } s m args below meth c D (va_A ws0 s.heap.size) 8 u (16 * u) (MQ below (QC D ws0 s.heap.size (PR (fun r w2 => ∃ w1 S1 m1, ivI cA h ab ac ar S1 false w1 ∧ LR cA w1 w2 m1 ∧ Post r S1 m1))) args s cB (16 * cB) (va_A ws0 s.heap.size)) ws 334 [(0, .ref (h 0)), (1, .ref v1), (3, .ref v3), (4, .int v4)] [] := by
    intro  ws w S mu u v1 v3 v4 hI hR H
    have H : ∃ q42, u + q42 ≤ cB ∧ wpL_loadText q42 S mu v1 (fun r42 S42 mu42 => (¬ r42 = v4 → False) ∧ (r42 = v4 → (u + q42) ≤ cB ∧ Post v3 S42 mu42)) := H
    refine k_aload_n C 0 (pc := 334) dL_randomBook_334 rfl rfl ?_
    refine k_aload_n C 1 (pc := 335) dL_randomBook_335 rfl rfl ?_
    obtain ⟨q42, hc_, H⟩ := H
    refine k_callAi C (pc := 336) (kw_runS C hE hF (As := [.ref (h 0), .ref v1]) (rest := []) (conL_loadText l D cA h ab ac ar hst q42 S mu v1 _  H hI hR) ⟨k_cwB C tW_6_41 tW_6_39 tW_1_0 okL_loadText rfl rfl ⟨Nat.le_of_ble_eq_true rfl, Nat.le_of_ble_eq_true rfl⟩, C.w tW_6_40⟩ rfl rfl (Nat.le_of_ble_eq_true rfl) dL_randomBook_336 (kw_rm hc_ (Nat.le_refl _) hRm)) (fun r42 w1 hw_ => ?_)
    obtain ⟨w_, S42, mu42, hI, hR, H⟩ := hw_
    refine k_sl ?_
    refine k_iload C 3 (pc := 339) dL_randomBook_339 rfl ?_
    refine k_icmp_ne C (pc := 341) (tgt := 348) dL_randomBook_341 (by decide) (fun c_341 => ?_) (fun c_341 => ?_)
    · have H := H.1 c_341
      exact H.elim
    · have H := H.2 c_341
      refine k_aload_n C 2 (pc := 344) dL_randomBook_344 rfl rfl ?_
      refine k_goto C (pc := 345) (tgt := 349) dL_randomBook_345 (by decide) ?_
      obtain ⟨hc_, H⟩ := H
      refine k_widen (k := cB) (n := 16 * cB) hc_ (Nat.mul_le_mul_left 16 hc_) ?_
      exact k_aret C (pc := 349) hr (Or.inl ⟨_, rfl⟩) dL_randomBook_349 ⟨_, S42, mu42, hI, hR, H⟩
  have B297 : ∀  (n : Nat) (ws w : va_W) (S : ivS) (mu : Mu) (u : Nat) (v1 : Nat) (v2 : Nat) (v3 : Nat) (v4 : Int32) (v5 : Int32), ivI cA h ab ac ar S false w → LR cA w ws mu → wpL_randomBook_L297 cB Post  n S mu u v1 v2 v3 v4 v5 → Kf p l e { frames := 11, cells := cB, slots := 16 * cB, locals := 244 } s m args below meth c D (va_A ws0 s.heap.size) 8 u (16 * u) (MQ below (QC D ws0 s.heap.size (PR (fun r w2 => ∃ w1 S1 m1, ivI cA h ab ac ar S1 false w1 ∧ LR cA w1 w2 m1 ∧ Post r S1 m1))) args s cB (16 * cB) (va_A ws0 s.heap.size)) ws 297 [(0, .ref (h 0)), (1, .ref v1), (2, .ref v2), (3, .ref v3), (4, .int v4), (5, .int v5)] [] := by
    intro  n
    induction n with
    | zero =>
      intro ws w S mu u v1 v2 v3 v4 v5 hI hR H
      exact H.elim
    | succ nn297 ih297 =>
      intro ws w S mu u v1 v2 v3 v4 v5 hI hR H
      have H : ((6 : Int32) ≤ v5 → ∃ x43, mB mu v3 = some x43 ∧ ∃ a43, x43.2.2.2.2.1 = some a43 ∧ ∃ q44, u + q44 ≤ cB ∧ wpL_writeAll_K q44 S mu v1 1 a43 (fun S44 mu44 => wpL_randomBook_b334 cB Post  S44 mu44 (u + q44) v1 v3 v4)) ∧ (¬ (6 : Int32) ≤ v5 → ∃ x45, mB mu v3 = some x45 ∧ ∃ a45, x45.2.2.2.2.1 = some a45 ∧ ∃ x46, mR mu v2 = some x46 ∧ u ≤ cB ∧ wpX10_below mu v2 (30 : Int32) (fun r47 mu48 => ∃ n49 f49 k49, mI mu48 a45 = some (n49, f49) ∧ v5 = nI k49 ∧ k49 < n49 ∧ n49 ≤ 1000 ∧ ∀ mu50, mu50 = sI mu48 a45 (n49, upd f49 k49 r47) → (wpL_randomBook_L297 cB Post  nn297) S mu50 u v1 v2 v3 v4 (v5 + (1 : Int32)))) := H
      refine k_iload C 5 (pc := 297) dL_randomBook_297 rfl ?_
      refine k_bipush C (pc := 299) (v := (6 : Int32)) dL_randomBook_299 (by decide) ?_
      refine k_icmp_ge C (pc := 301) (tgt := 323) dL_randomBook_301 (by decide) (fun c_301 => ?_) (fun c_301 => ?_)
      · have H := H.1 c_301
        refine k_aload_n C 0 (pc := 323) dL_randomBook_323 rfl rfl ?_
        refine k_aload_n C 1 (pc := 324) dL_randomBook_324 rfl rfl ?_
        refine k_ldcS C (pc := 325) (tx := "costs") (q := cA (100 + 1)) (C.2.1.2.2.1 ("WidowWatchLaw", 181, "costs", 1) (List.mem_of_getElem? (i := 7) rfl)) dL_randomBook_325 ?_
        refine k_aload_n C 3 (pc := 327) dL_randomBook_327 rfl rfl ?_
        obtain ⟨x43, hx43, H⟩ := H
        obtain ⟨a43, ha43, H⟩ := H
        refine l_getB C hR (pc := 328) hx43 4 (Nat.lt_of_lt_of_le (Nat.lt_succ_self _) (Nat.le_of_ble_eq_true rfl)) (ref := "WidowWatchLaw$Book") tW_2_71 rfl (v := .ref a43) (by show some (va_rf x43.2.2.2.2.1) = _; rw [ha43]; rfl) dL_randomBook_328 ?_
        obtain ⟨q44, hc_, H⟩ := H
        refine k_callAv C (pc := 331) (kw_runS C hE hF (As := [.ref (h 0), .ref v1, .ref (cA (100 + 1)), .ref a43]) (rest := []) (conL_writeAll_K l D cA h ab ac ar hst q44 S mu v1 1 a43 _ (show 1 < 10 from by decide) H hI hR) ⟨k_cwB C tW_5_31 tW_5_29 tW_1_0 okL_writeAll rfl rfl ⟨Nat.le_of_ble_eq_true rfl, Nat.le_of_ble_eq_true rfl⟩, C.w tW_5_30⟩ rfl rfl (Nat.le_of_ble_eq_true rfl) dL_randomBook_331 (kw_rm hc_ (Nat.le_refl _) hRm)) (fun w1 hw_ => ?_)
        obtain ⟨w_, S44, mu44, hI, hR, H⟩ := hw_
        refine k_sl ?_
        refine k_lv (pc := 334) [0, 1, 3, 4] (lv' := [(0, .ref (h 0)), (1, .ref v1), (3, .ref v3), (4, .int v4)]) rfl ?_
        exact B334  _ _ S44 mu44 (u + q44) v1 v3 v4 hI hR H
      · have H := H.2 c_301
        refine k_aload_n C 3 (pc := 304) dL_randomBook_304 rfl rfl ?_
        obtain ⟨x45, hx45, H⟩ := H
        obtain ⟨a45, ha45, H⟩ := H
        refine l_getB C hR (pc := 305) hx45 4 (Nat.lt_of_lt_of_le (Nat.lt_succ_self _) (Nat.le_of_ble_eq_true rfl)) (ref := "WidowWatchLaw$Book") tW_2_71 rfl (v := .ref a45) (by show some (va_rf x45.2.2.2.2.1) = _; rw [ha45]; rfl) dL_randomBook_305 ?_
        refine k_iload C 5 (pc := 308) dL_randomBook_308 rfl ?_
        refine k_aload_n C 2 (pc := 310) dL_randomBook_310 rfl rfl ?_
        refine k_bipush C (pc := 311) (v := (30 : Int32)) dL_randomBook_311 (by decide) ?_
        obtain ⟨x46, hx46, H⟩ := H
        obtain ⟨i46, hi46⟩ := List.getElem?_of_mem (hR.R hx46)
        obtain ⟨hc_, H⟩ := H
        refine k_callAi C (pc := 313) (l_runV C hF (As := [.int (30 : Int32)]) (rest := [.int v5, .ref a45]) (ci := 10) (q0 := i46) (conX10_below l D cA mu v2 (30 : Int32) _  H hR) ⟨k_cwB C tW_2_170 tW_2_167 tW_1_8 okX10_below rfl rfl ⟨Nat.le_of_ble_eq_true rfl, Nat.le_of_ble_eq_true rfl⟩, C.w tW_2_168, C.w tW_2_169⟩ hi46 rfl rfl rfl rfl (Nat.le_of_ble_eq_true rfl) dL_randomBook_313 ⟨hc_, (by show 16 * (u) + 0 ≤ 16 * cB; omega)⟩) (fun r47 w1 hw_ => ?_)
        obtain ⟨mu48, hR, H⟩ := hw_
        obtain ⟨n49, f49, k49, hx_, hk_, hl_, hn_, H⟩ := H
        refine k_eq (pc := 316) (st' := [.int r47, .int (nI k49), .ref a45]) rfl rfl (by rw [hk_]) ?_
        refine l_iast C hR (pc := 316) hx_ hl_ hn_ dL_randomBook_316 (fun w1 hR => ?_)
        obtain ⟨mu50, hm50⟩ : ∃ m_, m_ = sI mu48 a45 (n49, upd f49 k49 r47) := ⟨_, rfl⟩
        rw [← hm50] at hR
        have H := H mu50 hm50
        refine k_iinc C (pc := 317) (k := 5) (v := v5 + (1 : Int32)) dL_randomBook_317 rfl rfl (Nat.lt_of_lt_of_le (Nat.lt_succ_self _) (Nat.le_of_ble_eq_true rfl)) (lv' := [(5, .int (v5 + (1 : Int32))), (0, .ref (h 0)), (1, .ref v1), (2, .ref v2), (3, .ref v3), (4, .int v4)]) rfl ?_
        refine k_goto C (pc := 320) (tgt := 297) dL_randomBook_320 (by decide) ?_
        refine k_lv (pc := 297) [1, 2, 3, 4, 5, 0] (lv' := [(0, .ref (h 0)), (1, .ref v1), (2, .ref v2), (3, .ref v3), (4, .int v4), (5, .int (v5 + (1 : Int32)))]) rfl ?_
        exact ih297 _ _ S mu50 u v1 v2 v3 v4 (v5 + (1 : Int32)) hI hR H
  have B177 : ∀ (K116 : ivS → Mu → Nat → Nat → Nat → Nat → Int32 → Int32 → Prop) (hK116 : ∀ (ws w : va_W) (S : ivS) (mu : Mu) (u : Nat) (v1 : Nat) (v2 : Nat) (v3 : Nat) (v4 : Int32) (v5 : Int32), ivI cA h ab ac ar S false w → LR cA w ws mu → K116 S mu u v1 v2 v3 v4 v5 → Kf p l e { frames := 11, cells := cB, slots := 16 * cB, locals := 244 } s m args below meth c D (va_A ws0 s.heap.size) 8 u (16 * u) (MQ below (QC D ws0 s.heap.size (PR (fun r w2 => ∃ w1 S1 m1, ivI cA h ab ac ar S1 false w1 ∧ LR cA w1 w2 m1 ∧ Post r S1 m1))) args s cB (16 * cB) (va_A ws0 s.heap.size)) ws 116 [(0, .ref (h 0)), (1, .ref v1), (2, .ref v2), (3, .ref v3), (4, .int v4), (5, .int v5)] []) (n : Nat) (ws w : va_W) (S : ivS) (mu : Mu) (u : Nat) (v1 : Nat) (v2 : Nat) (v3 : Nat) (v4 : Int32) (v5 : Int32) (v6 : Nat) (v7 : Int32), ivI cA h ab ac ar S false w → LR cA w ws mu → wpL_randomBook_L177 cB Post K116 n S mu u v1 v2 v3 v4 v5 v6 v7 → Kf p l e { frames := 11, cells := cB, slots := 16 * cB, locals := 244 } s m args below meth c D (va_A ws0 s.heap.size) 8 u (16 * u) (MQ below (QC D ws0 s.heap.size (PR (fun r w2 => ∃ w1 S1 m1, ivI cA h ab ac ar S1 false w1 ∧ LR cA w1 w2 m1 ∧ Post r S1 m1))) args s cB (16 * cB) (va_A ws0 s.heap.size)) ws 177 [(0, .ref (h 0)), (1, .ref v1), (2, .ref v2), (3, .ref v3), (4, .int v4), (5, .int v5), (6, .ref v6), (7, .int v7)] [] := by
    intro K116 hK116 n
    induction n with
    | zero =>
      intro ws w S mu u v1 v2 v3 v4 v5 v6 v7 hI hR H
      exact H.elim
    | succ nn177 ih177 =>
      intro ws w S mu u v1 v2 v3 v4 v5 v6 v7 hI hR H
      have H : (v7 ≤ 0 → u + 1 ≤ cB ∧ ∀ a69, frM mu a69 → ∀ mu70, mu70 = sG mu a69 (none, 0, 0, 0) → ∃ q72, (u + 1) + q72 ≤ cB ∧ wpJ4_init_da8c8 q72 mu70 a69 (fun mu73 => ∃ x74, mP mu73 v6 = some x74 ∧ (x74.1 = 0 → ∃ x75, mG mu73 a69 = some x75 ∧ ((u + 1) + q72) ≤ cB ∧ wpJ4_append_15ec4_K mu73 a69 3 (fun r76 mu77 => ∃ x78, mP mu77 v6 = some x78 ∧ (x78.2.1 = 0 → ∃ x79, mG mu77 r76 = some x79 ∧ ((u + 1) + q72) ≤ cB ∧ wpJ4_append_15ec4_K mu77 r76 9 (fun r80 mu81 => ∃ x82, mG mu81 r80 = some x82 ∧ ∃ q84, ((u + 1) + q72) + q84 ≤ cB ∧ wpJ4_toString_0e30d q84 mu81 r80 (fun r83 mu85 => ∃ x86, mP mu85 v6 = some x86 ∧ ∃ a86, x86.2.2.2 = some a86 ∧ ∃ q87, (((u + 1) + q72) + q84) + q87 ≤ cB ∧ wpL_writeAll_D q87 S mu85 v1 r83 a86 (fun S87 mu87 => ∃ x88, mB mu87 v3 = some x88 ∧ ∃ q90, ((((u + 1) + q72) + q84) + q87) + q90 ≤ cB ∧ wpX7_adds q90 mu87 v3 v5 v6 (fun mu91 => K116 S87 mu91 (((((u + 1) + q72) + q84) + q87) + q90) v1 v2 v3 v4 (v5 + (1 : Int32))))))) ∧ (¬ x78.2.1 = 0 → ∃ x92, mG mu77 r76 = some x92 ∧ ((u + 1) + q72) ≤ cB ∧ wpJ4_append_15ec4_K mu77 r76 8 (fun r93 mu94 => ∃ x95, mG mu94 r93 = some x95 ∧ ∃ q97, ((u + 1) + q72) + q97 ≤ cB ∧ wpJ4_toString_0e30d q97 mu94 r93 (fun r96 mu98 => ∃ x99, mP mu98 v6 = some x99 ∧ ∃ a99, x99.2.2.2 = some a99 ∧ ∃ q100, (((u + 1) + q72) + q97) + q100 ≤ cB ∧ wpL_writeAll_D q100 S mu98 v1 r96 a99 (fun S100 mu100 => ∃ x101, mB mu100 v3 = some x101 ∧ ∃ q103, ((((u + 1) + q72) + q97) + q100) + q103 ≤ cB ∧ wpX7_adds q103 mu100 v3 v5 v6 (fun mu104 => K116 S100 mu104 (((((u + 1) + q72) + q97) + q100) + q103) v1 v2 v3 v4 (v5 + (1 : Int32))))))))) ∧ (¬ x74.1 = 0 → ∃ x105, mG mu73 a69 = some x105 ∧ ((u + 1) + q72) ≤ cB ∧ wpJ4_append_15ec4_K mu73 a69 5 (fun r106 mu107 => ∃ x108, mP mu107 v6 = some x108 ∧ (x108.2.1 = 0 → ∃ x109, mG mu107 r106 = some x109 ∧ ((u + 1) + q72) ≤ cB ∧ wpJ4_append_15ec4_K mu107 r106 9 (fun r110 mu111 => ∃ x112, mG mu111 r110 = some x112 ∧ ∃ q114, ((u + 1) + q72) + q114 ≤ cB ∧ wpJ4_toString_0e30d q114 mu111 r110 (fun r113 mu115 => ∃ x116, mP mu115 v6 = some x116 ∧ ∃ a116, x116.2.2.2 = some a116 ∧ ∃ q117, (((u + 1) + q72) + q114) + q117 ≤ cB ∧ wpL_writeAll_D q117 S mu115 v1 r113 a116 (fun S117 mu117 => ∃ x118, mB mu117 v3 = some x118 ∧ ∃ q120, ((((u + 1) + q72) + q114) + q117) + q120 ≤ cB ∧ wpX7_adds q120 mu117 v3 v5 v6 (fun mu121 => K116 S117 mu121 (((((u + 1) + q72) + q114) + q117) + q120) v1 v2 v3 v4 (v5 + (1 : Int32))))))) ∧ (¬ x108.2.1 = 0 → ∃ x122, mG mu107 r106 = some x122 ∧ ((u + 1) + q72) ≤ cB ∧ wpJ4_append_15ec4_K mu107 r106 8 (fun r123 mu124 => ∃ x125, mG mu124 r123 = some x125 ∧ ∃ q127, ((u + 1) + q72) + q127 ≤ cB ∧ wpJ4_toString_0e30d q127 mu124 r123 (fun r126 mu128 => ∃ x129, mP mu128 v6 = some x129 ∧ ∃ a129, x129.2.2.2 = some a129 ∧ ∃ q130, (((u + 1) + q72) + q127) + q130 ≤ cB ∧ wpL_writeAll_D q130 S mu128 v1 r126 a129 (fun S130 mu130 => ∃ x131, mB mu130 v3 = some x131 ∧ ∃ q133, ((((u + 1) + q72) + q127) + q130) + q133 ≤ cB ∧ wpX7_adds q133 mu130 v3 v5 v6 (fun mu134 => K116 S130 mu134 (((((u + 1) + q72) + q127) + q130) + q133) v1 v2 v3 v4 (v5 + (1 : Int32))))))))))) ∧ (¬ v7 ≤ 0 → ∃ x135, mP mu v6 = some x135 ∧ ∃ a135, x135.2.2.2 = some a135 ∧ ∃ x136, mB mu v3 = some x136 ∧ ∃ x137, mB mu v3 = some x137 ∧ ∃ x138, mR mu v2 = some x138 ∧ u ≤ cB ∧ wpX10_below mu v2 (x136.1 - x137.2.2.1) (fun r139 mu140 => ∃ q142, u + q142 ≤ cB ∧ wpL_with q142 mu140 a135 ((1 : Int32) + r139) (fun r141 mu143 => ∃ x144, mP mu143 v6 = some x144 ∧ ∀ mu145, mu145 = sP mu143 v6 (x144.1, x144.2.1, x144.2.2.1, some r141) → (wpL_randomBook_L177 cB Post K116 nn177) S mu145 (u + q142) v1 v2 v3 v4 v5 v6 (v7 + (-1 : Int32))))) := H
      refine k_iload C 7 (pc := 177) dL_randomBook_177 rfl ?_
      refine k_if_le C (pc := 179) (tgt := 216) dL_randomBook_179 (by decide) (fun c_179 => ?_) (fun c_179 => ?_)
      · have H := H.1 c_179
        refine k_aload_n C 0 (pc := 216) dL_randomBook_216 rfl rfl ?_
        refine k_aload_n C 1 (pc := 217) dL_randomBook_217 rfl rfl ?_
        obtain ⟨hc_, H⟩ := H
        refine l_newG C hR (u := u) (pc := 218) tW_5_58 tW_5_59 tW_1_24 hc_ (Nat.mul_le_mul_left 16 hc_) dL_randomBook_218 (fun a69 w1 hf_ hR => ?_)
        have H := H a69 hf_
        obtain ⟨mu70, hm70⟩ : ∃ m_, m_ = sG mu a69 (none, 0, 0, 0) := ⟨_, rfl⟩
        rw [← hm70] at hR
        have H := H mu70 hm70
        refine k_dup C (pc := 221) dL_randomBook_221 rfl ?_
        obtain ⟨q72, hc_, H⟩ := H
        refine k_callAv C (pc := 222) (k_runIC C hF (As := []) (rest := [.ref a69, .ref v1, .ref (h 0)]) (conJ4_init_da8c8 l D cA q72 mu70 a69 _  H hR) ⟨k_cwB C tW_5_62 tW_5_60 tW_1_24 okJ4_init_da8c8 rfl rfl ⟨Nat.le_of_ble_eq_true rfl, Nat.le_of_ble_eq_true rfl⟩, rfl, C.w tW_5_61⟩ rfl rfl (Nat.le_of_ble_eq_true rfl) dL_randomBook_222 ⟨hc_, by show 16 * (u + 1) + 16 * q72 ≤ 16 * cB; omega⟩) (fun w1 hw_ => ?_)
        obtain ⟨mu73, hR, H⟩ := hw_
        refine k_sl ?_
        refine k_aload C 6 (pc := 225) dL_randomBook_225 rfl ?_
        obtain ⟨x74, hx74, H⟩ := H
        refine l_getP C hR (pc := 227) hx74 0 (Nat.lt_of_lt_of_le (Nat.lt_succ_self _) (Nat.le_of_ble_eq_true rfl)) (ref := "WidowWatchLaw$Para") tW_2_124 rfl (v := .int x74.1) rfl dL_randomBook_227 ?_
        refine k_if_eq C (pc := 230) (tgt := 238) dL_randomBook_230 (by decide) (fun c_230 => ?_) (fun c_230 => ?_)
        · have H := H.1 c_230
          refine k_ldcS C (pc := 238) (tx := "para") (q := cA (100 + 3)) (C.2.1.2.2.1 ("WidowWatchLaw", 161, "para", 3) (List.mem_of_getElem? (i := 9) rfl)) dL_randomBook_238 ?_
          obtain ⟨x75, hx75, H⟩ := H
          obtain ⟨i75, hi75⟩ := List.getElem?_of_mem (hR.G hx75)
          obtain ⟨hc_, H⟩ := H
          refine k_callAr C (pc := 240) (l_runV C hF (As := [.ref (cA (100 + 3))]) (rest := [.ref v1, .ref (h 0)]) (ci := 12) (q0 := i75) (conJ4_append_15ec4_K l D cA mu73 a69 3 _ (show 3 < 10 from by decide) H hR) ⟨k_cwB C tW_5_93 tW_5_90 tW_1_24 okJ4_append_15ec4 rfl rfl ⟨Nat.le_of_ble_eq_true rfl, Nat.le_of_ble_eq_true rfl⟩, C.w tW_5_91, C.w tW_5_92⟩ hi75 rfl rfl rfl rfl (Nat.le_of_ble_eq_true rfl) dL_randomBook_240 ⟨hc_, (by show 16 * ((u + 1) + q72) + 0 ≤ 16 * cB; omega)⟩) (fun r76 w1 hw_ => ?_)
          obtain ⟨mu77, hR, H⟩ := hw_
          refine k_aload C 6 (pc := 243) dL_randomBook_243 rfl ?_
          obtain ⟨x78, hx78, H⟩ := H
          refine l_getP C hR (pc := 245) hx78 1 (Nat.lt_of_lt_of_le (Nat.lt_succ_self _) (Nat.le_of_ble_eq_true rfl)) (ref := "WidowWatchLaw$Para") tW_2_127 rfl (v := .int x78.2.1) rfl dL_randomBook_245 ?_
          refine k_if_eq C (pc := 248) (tgt := 256) dL_randomBook_248 (by decide) (fun c_248 => ?_) (fun c_248 => ?_)
          · have H := H.1 c_248
            refine k_ldcS C (pc := 256) (tx := "") (q := cA (100 + 9)) (C.2.1.2.2.1 ("WidowWatchLaw", 168, "", 9) (List.mem_of_getElem? (i := 14) rfl)) dL_randomBook_256 ?_
            obtain ⟨x79, hx79, H⟩ := H
            obtain ⟨i79, hi79⟩ := List.getElem?_of_mem (hR.G hx79)
            obtain ⟨hc_, H⟩ := H
            refine k_callAr C (pc := 258) (l_runV C hF (As := [.ref (cA (100 + 9))]) (rest := [.ref v1, .ref (h 0)]) (ci := 12) (q0 := i79) (conJ4_append_15ec4_K l D cA mu77 r76 9 _ (show 9 < 10 from by decide) H hR) ⟨k_cwB C tW_5_93 tW_5_90 tW_1_24 okJ4_append_15ec4 rfl rfl ⟨Nat.le_of_ble_eq_true rfl, Nat.le_of_ble_eq_true rfl⟩, C.w tW_5_91, C.w tW_5_92⟩ hi79 rfl rfl rfl rfl (Nat.le_of_ble_eq_true rfl) dL_randomBook_258 ⟨hc_, (by show 16 * ((u + 1) + q72) + 0 ≤ 16 * cB; omega)⟩) (fun r80 w1 hw_ => ?_)
            obtain ⟨mu81, hR, H⟩ := hw_
            obtain ⟨x82, hx82, H⟩ := H
            obtain ⟨i82, hi82⟩ := List.getElem?_of_mem (hR.G hx82)
            obtain ⟨q84, hc_, H⟩ := H
            refine k_callAr C (pc := 261) (l_runV C hF (As := []) (rest := [.ref v1, .ref (h 0)]) (ci := 12) (q0 := i82) (conJ4_toString_0e30d l D cA q84 mu81 r80 _  H hR) ⟨k_cwB C tW_5_192 tW_5_189 tW_1_24 okJ4_toString_0e30d rfl rfl ⟨Nat.le_of_ble_eq_true rfl, Nat.le_of_ble_eq_true rfl⟩, C.w tW_5_190, C.w tW_5_191⟩ hi82 rfl rfl rfl rfl (Nat.le_of_ble_eq_true rfl) dL_randomBook_261 ⟨hc_, by show 16 * ((u + 1) + q72) + 16 * q84 ≤ 16 * cB; omega⟩) (fun r83 w1 hw_ => ?_)
            obtain ⟨mu85, hR, H⟩ := hw_
            refine k_sl ?_
            refine k_aload C 6 (pc := 264) dL_randomBook_264 rfl ?_
            obtain ⟨x86, hx86, H⟩ := H
            obtain ⟨a86, ha86, H⟩ := H
            refine l_getP C hR (pc := 266) hx86 3 (Nat.lt_of_lt_of_le (Nat.lt_succ_self _) (Nat.le_of_ble_eq_true rfl)) (ref := "WidowWatchLaw$Para") tW_2_133 rfl (v := .ref a86) (by show some (va_rf x86.2.2.2) = _; rw [ha86]; rfl) dL_randomBook_266 ?_
            obtain ⟨q87, hc_, H⟩ := H
            refine k_callAv C (pc := 269) (kw_runS C hE hF (As := [.ref (h 0), .ref v1, .ref r83, .ref a86]) (rest := []) (conL_writeAll_D l D cA h ab ac ar hst q87 S mu85 v1 r83 a86 _  H hI hR) ⟨k_cwB C tW_5_31 tW_5_29 tW_1_0 okL_writeAll rfl rfl ⟨Nat.le_of_ble_eq_true rfl, Nat.le_of_ble_eq_true rfl⟩, C.w tW_5_30⟩ rfl rfl (Nat.le_of_ble_eq_true rfl) dL_randomBook_269 (kw_rm hc_ (Nat.le_refl _) hRm)) (fun w1 hw_ => ?_)
            obtain ⟨w_, S87, mu87, hI, hR, H⟩ := hw_
            refine k_sl ?_
            refine k_aload_n C 3 (pc := 272) dL_randomBook_272 rfl rfl ?_
            refine k_iload C 5 (pc := 273) dL_randomBook_273 rfl ?_
            refine k_aload C 6 (pc := 275) dL_randomBook_275 rfl ?_
            obtain ⟨x88, hx88, H⟩ := H
            obtain ⟨i88, hi88⟩ := List.getElem?_of_mem (hR.B hx88)
            obtain ⟨q90, hc_, H⟩ := H
            refine k_callAv C (pc := 277) (l_runV C hF (As := [.int v5, .ref v6]) (rest := []) (ci := 7) (q0 := i88) (conX7_adds l D cA q90 mu87 v3 v5 v6 _  H hR) ⟨k_cwB C tW_2_146 tW_2_143 tW_1_9 okX7_adds rfl rfl ⟨Nat.le_of_ble_eq_true rfl, Nat.le_of_ble_eq_true rfl⟩, C.w tW_2_144, C.w tW_2_145⟩ hi88 rfl rfl rfl rfl (Nat.le_of_ble_eq_true rfl) dL_randomBook_277 ⟨hc_, by show 16 * ((((u + 1) + q72) + q84) + q87) + 16 * q90 ≤ 16 * cB; omega⟩) (fun w1 hw_ => ?_)
            obtain ⟨mu91, hR, H⟩ := hw_
            refine k_sl ?_
            refine k_iinc C (pc := 280) (k := 5) (v := v5 + (1 : Int32)) dL_randomBook_280 rfl rfl (Nat.lt_of_lt_of_le (Nat.lt_succ_self _) (Nat.le_of_ble_eq_true rfl)) (lv' := [(5, .int (v5 + (1 : Int32))), (0, .ref (h 0)), (1, .ref v1), (2, .ref v2), (3, .ref v3), (4, .int v4), (6, .ref v6), (7, .int v7)]) rfl ?_
            refine k_goto C (pc := 283) (tgt := 116) dL_randomBook_283 (by decide) ?_
            refine k_lv (pc := 116) [1, 2, 3, 4, 5, 0] (lv' := [(0, .ref (h 0)), (1, .ref v1), (2, .ref v2), (3, .ref v3), (4, .int v4), (5, .int (v5 + (1 : Int32)))]) rfl ?_
            exact hK116 _ _ S87 mu91 (((((u + 1) + q72) + q84) + q87) + q90) v1 v2 v3 v4 (v5 + (1 : Int32)) hI hR H
          · have H := H.2 c_248
            refine k_ldcS C (pc := 251) (tx := " page") (q := cA (100 + 8)) (C.2.1.2.2.1 ("WidowWatchLaw", 166, " page", 8) (List.mem_of_getElem? (i := 13) rfl)) dL_randomBook_251 ?_
            refine k_goto C (pc := 253) (tgt := 258) dL_randomBook_253 (by decide) ?_
            obtain ⟨x92, hx92, H⟩ := H
            obtain ⟨i92, hi92⟩ := List.getElem?_of_mem (hR.G hx92)
            obtain ⟨hc_, H⟩ := H
            refine k_callAr C (pc := 258) (l_runV C hF (As := [.ref (cA (100 + 8))]) (rest := [.ref v1, .ref (h 0)]) (ci := 12) (q0 := i92) (conJ4_append_15ec4_K l D cA mu77 r76 8 _ (show 8 < 10 from by decide) H hR) ⟨k_cwB C tW_5_93 tW_5_90 tW_1_24 okJ4_append_15ec4 rfl rfl ⟨Nat.le_of_ble_eq_true rfl, Nat.le_of_ble_eq_true rfl⟩, C.w tW_5_91, C.w tW_5_92⟩ hi92 rfl rfl rfl rfl (Nat.le_of_ble_eq_true rfl) dL_randomBook_258 ⟨hc_, (by show 16 * ((u + 1) + q72) + 0 ≤ 16 * cB; omega)⟩) (fun r93 w1 hw_ => ?_)
            obtain ⟨mu94, hR, H⟩ := hw_
            obtain ⟨x95, hx95, H⟩ := H
            obtain ⟨i95, hi95⟩ := List.getElem?_of_mem (hR.G hx95)
            obtain ⟨q97, hc_, H⟩ := H
            refine k_callAr C (pc := 261) (l_runV C hF (As := []) (rest := [.ref v1, .ref (h 0)]) (ci := 12) (q0 := i95) (conJ4_toString_0e30d l D cA q97 mu94 r93 _  H hR) ⟨k_cwB C tW_5_192 tW_5_189 tW_1_24 okJ4_toString_0e30d rfl rfl ⟨Nat.le_of_ble_eq_true rfl, Nat.le_of_ble_eq_true rfl⟩, C.w tW_5_190, C.w tW_5_191⟩ hi95 rfl rfl rfl rfl (Nat.le_of_ble_eq_true rfl) dL_randomBook_261 ⟨hc_, by show 16 * ((u + 1) + q72) + 16 * q97 ≤ 16 * cB; omega⟩) (fun r96 w1 hw_ => ?_)
            obtain ⟨mu98, hR, H⟩ := hw_
            refine k_sl ?_
            refine k_aload C 6 (pc := 264) dL_randomBook_264 rfl ?_
            obtain ⟨x99, hx99, H⟩ := H
            obtain ⟨a99, ha99, H⟩ := H
            refine l_getP C hR (pc := 266) hx99 3 (Nat.lt_of_lt_of_le (Nat.lt_succ_self _) (Nat.le_of_ble_eq_true rfl)) (ref := "WidowWatchLaw$Para") tW_2_133 rfl (v := .ref a99) (by show some (va_rf x99.2.2.2) = _; rw [ha99]; rfl) dL_randomBook_266 ?_
            obtain ⟨q100, hc_, H⟩ := H
            refine k_callAv C (pc := 269) (kw_runS C hE hF (As := [.ref (h 0), .ref v1, .ref r96, .ref a99]) (rest := []) (conL_writeAll_D l D cA h ab ac ar hst q100 S mu98 v1 r96 a99 _  H hI hR) ⟨k_cwB C tW_5_31 tW_5_29 tW_1_0 okL_writeAll rfl rfl ⟨Nat.le_of_ble_eq_true rfl, Nat.le_of_ble_eq_true rfl⟩, C.w tW_5_30⟩ rfl rfl (Nat.le_of_ble_eq_true rfl) dL_randomBook_269 (kw_rm hc_ (Nat.le_refl _) hRm)) (fun w1 hw_ => ?_)
            obtain ⟨w_, S100, mu100, hI, hR, H⟩ := hw_
            refine k_sl ?_
            refine k_aload_n C 3 (pc := 272) dL_randomBook_272 rfl rfl ?_
            refine k_iload C 5 (pc := 273) dL_randomBook_273 rfl ?_
            refine k_aload C 6 (pc := 275) dL_randomBook_275 rfl ?_
            obtain ⟨x101, hx101, H⟩ := H
            obtain ⟨i101, hi101⟩ := List.getElem?_of_mem (hR.B hx101)
            obtain ⟨q103, hc_, H⟩ := H
            refine k_callAv C (pc := 277) (l_runV C hF (As := [.int v5, .ref v6]) (rest := []) (ci := 7) (q0 := i101) (conX7_adds l D cA q103 mu100 v3 v5 v6 _  H hR) ⟨k_cwB C tW_2_146 tW_2_143 tW_1_9 okX7_adds rfl rfl ⟨Nat.le_of_ble_eq_true rfl, Nat.le_of_ble_eq_true rfl⟩, C.w tW_2_144, C.w tW_2_145⟩ hi101 rfl rfl rfl rfl (Nat.le_of_ble_eq_true rfl) dL_randomBook_277 ⟨hc_, by show 16 * ((((u + 1) + q72) + q97) + q100) + 16 * q103 ≤ 16 * cB; omega⟩) (fun w1 hw_ => ?_)
            obtain ⟨mu104, hR, H⟩ := hw_
            refine k_sl ?_
            refine k_iinc C (pc := 280) (k := 5) (v := v5 + (1 : Int32)) dL_randomBook_280 rfl rfl (Nat.lt_of_lt_of_le (Nat.lt_succ_self _) (Nat.le_of_ble_eq_true rfl)) (lv' := [(5, .int (v5 + (1 : Int32))), (0, .ref (h 0)), (1, .ref v1), (2, .ref v2), (3, .ref v3), (4, .int v4), (6, .ref v6), (7, .int v7)]) rfl ?_
            refine k_goto C (pc := 283) (tgt := 116) dL_randomBook_283 (by decide) ?_
            refine k_lv (pc := 116) [1, 2, 3, 4, 5, 0] (lv' := [(0, .ref (h 0)), (1, .ref v1), (2, .ref v2), (3, .ref v3), (4, .int v4), (5, .int (v5 + (1 : Int32)))]) rfl ?_
            exact hK116 _ _ S100 mu104 (((((u + 1) + q72) + q97) + q100) + q103) v1 v2 v3 v4 (v5 + (1 : Int32)) hI hR H
        · have H := H.2 c_230
          refine k_ldcS C (pc := 233) (tx := "heading") (q := cA (100 + 5)) (C.2.1.2.2.1 ("WidowWatchLaw", 159, "heading", 5) (List.mem_of_getElem? (i := 10) rfl)) dL_randomBook_233 ?_
          refine k_goto C (pc := 235) (tgt := 240) dL_randomBook_235 (by decide) ?_
          obtain ⟨x105, hx105, H⟩ := H
          obtain ⟨i105, hi105⟩ := List.getElem?_of_mem (hR.G hx105)
          obtain ⟨hc_, H⟩ := H
          refine k_callAr C (pc := 240) (l_runV C hF (As := [.ref (cA (100 + 5))]) (rest := [.ref v1, .ref (h 0)]) (ci := 12) (q0 := i105) (conJ4_append_15ec4_K l D cA mu73 a69 5 _ (show 5 < 10 from by decide) H hR) ⟨k_cwB C tW_5_93 tW_5_90 tW_1_24 okJ4_append_15ec4 rfl rfl ⟨Nat.le_of_ble_eq_true rfl, Nat.le_of_ble_eq_true rfl⟩, C.w tW_5_91, C.w tW_5_92⟩ hi105 rfl rfl rfl rfl (Nat.le_of_ble_eq_true rfl) dL_randomBook_240 ⟨hc_, (by show 16 * ((u + 1) + q72) + 0 ≤ 16 * cB; omega)⟩) (fun r106 w1 hw_ => ?_)
          obtain ⟨mu107, hR, H⟩ := hw_
          refine k_aload C 6 (pc := 243) dL_randomBook_243 rfl ?_
          obtain ⟨x108, hx108, H⟩ := H
          refine l_getP C hR (pc := 245) hx108 1 (Nat.lt_of_lt_of_le (Nat.lt_succ_self _) (Nat.le_of_ble_eq_true rfl)) (ref := "WidowWatchLaw$Para") tW_2_127 rfl (v := .int x108.2.1) rfl dL_randomBook_245 ?_
          refine k_if_eq C (pc := 248) (tgt := 256) dL_randomBook_248 (by decide) (fun c_248 => ?_) (fun c_248 => ?_)
          · have H := H.1 c_248
            refine k_ldcS C (pc := 256) (tx := "") (q := cA (100 + 9)) (C.2.1.2.2.1 ("WidowWatchLaw", 168, "", 9) (List.mem_of_getElem? (i := 14) rfl)) dL_randomBook_256 ?_
            obtain ⟨x109, hx109, H⟩ := H
            obtain ⟨i109, hi109⟩ := List.getElem?_of_mem (hR.G hx109)
            obtain ⟨hc_, H⟩ := H
            refine k_callAr C (pc := 258) (l_runV C hF (As := [.ref (cA (100 + 9))]) (rest := [.ref v1, .ref (h 0)]) (ci := 12) (q0 := i109) (conJ4_append_15ec4_K l D cA mu107 r106 9 _ (show 9 < 10 from by decide) H hR) ⟨k_cwB C tW_5_93 tW_5_90 tW_1_24 okJ4_append_15ec4 rfl rfl ⟨Nat.le_of_ble_eq_true rfl, Nat.le_of_ble_eq_true rfl⟩, C.w tW_5_91, C.w tW_5_92⟩ hi109 rfl rfl rfl rfl (Nat.le_of_ble_eq_true rfl) dL_randomBook_258 ⟨hc_, (by show 16 * ((u + 1) + q72) + 0 ≤ 16 * cB; omega)⟩) (fun r110 w1 hw_ => ?_)
            obtain ⟨mu111, hR, H⟩ := hw_
            obtain ⟨x112, hx112, H⟩ := H
            obtain ⟨i112, hi112⟩ := List.getElem?_of_mem (hR.G hx112)
            obtain ⟨q114, hc_, H⟩ := H
            refine k_callAr C (pc := 261) (l_runV C hF (As := []) (rest := [.ref v1, .ref (h 0)]) (ci := 12) (q0 := i112) (conJ4_toString_0e30d l D cA q114 mu111 r110 _  H hR) ⟨k_cwB C tW_5_192 tW_5_189 tW_1_24 okJ4_toString_0e30d rfl rfl ⟨Nat.le_of_ble_eq_true rfl, Nat.le_of_ble_eq_true rfl⟩, C.w tW_5_190, C.w tW_5_191⟩ hi112 rfl rfl rfl rfl (Nat.le_of_ble_eq_true rfl) dL_randomBook_261 ⟨hc_, by show 16 * ((u + 1) + q72) + 16 * q114 ≤ 16 * cB; omega⟩) (fun r113 w1 hw_ => ?_)
            obtain ⟨mu115, hR, H⟩ := hw_
            refine k_sl ?_
            refine k_aload C 6 (pc := 264) dL_randomBook_264 rfl ?_
            obtain ⟨x116, hx116, H⟩ := H
            obtain ⟨a116, ha116, H⟩ := H
            refine l_getP C hR (pc := 266) hx116 3 (Nat.lt_of_lt_of_le (Nat.lt_succ_self _) (Nat.le_of_ble_eq_true rfl)) (ref := "WidowWatchLaw$Para") tW_2_133 rfl (v := .ref a116) (by show some (va_rf x116.2.2.2) = _; rw [ha116]; rfl) dL_randomBook_266 ?_
            obtain ⟨q117, hc_, H⟩ := H
            refine k_callAv C (pc := 269) (kw_runS C hE hF (As := [.ref (h 0), .ref v1, .ref r113, .ref a116]) (rest := []) (conL_writeAll_D l D cA h ab ac ar hst q117 S mu115 v1 r113 a116 _  H hI hR) ⟨k_cwB C tW_5_31 tW_5_29 tW_1_0 okL_writeAll rfl rfl ⟨Nat.le_of_ble_eq_true rfl, Nat.le_of_ble_eq_true rfl⟩, C.w tW_5_30⟩ rfl rfl (Nat.le_of_ble_eq_true rfl) dL_randomBook_269 (kw_rm hc_ (Nat.le_refl _) hRm)) (fun w1 hw_ => ?_)
            obtain ⟨w_, S117, mu117, hI, hR, H⟩ := hw_
            refine k_sl ?_
            refine k_aload_n C 3 (pc := 272) dL_randomBook_272 rfl rfl ?_
            refine k_iload C 5 (pc := 273) dL_randomBook_273 rfl ?_
            refine k_aload C 6 (pc := 275) dL_randomBook_275 rfl ?_
            obtain ⟨x118, hx118, H⟩ := H
            obtain ⟨i118, hi118⟩ := List.getElem?_of_mem (hR.B hx118)
            obtain ⟨q120, hc_, H⟩ := H
            refine k_callAv C (pc := 277) (l_runV C hF (As := [.int v5, .ref v6]) (rest := []) (ci := 7) (q0 := i118) (conX7_adds l D cA q120 mu117 v3 v5 v6 _  H hR) ⟨k_cwB C tW_2_146 tW_2_143 tW_1_9 okX7_adds rfl rfl ⟨Nat.le_of_ble_eq_true rfl, Nat.le_of_ble_eq_true rfl⟩, C.w tW_2_144, C.w tW_2_145⟩ hi118 rfl rfl rfl rfl (Nat.le_of_ble_eq_true rfl) dL_randomBook_277 ⟨hc_, by show 16 * ((((u + 1) + q72) + q114) + q117) + 16 * q120 ≤ 16 * cB; omega⟩) (fun w1 hw_ => ?_)
            obtain ⟨mu121, hR, H⟩ := hw_
            refine k_sl ?_
            refine k_iinc C (pc := 280) (k := 5) (v := v5 + (1 : Int32)) dL_randomBook_280 rfl rfl (Nat.lt_of_lt_of_le (Nat.lt_succ_self _) (Nat.le_of_ble_eq_true rfl)) (lv' := [(5, .int (v5 + (1 : Int32))), (0, .ref (h 0)), (1, .ref v1), (2, .ref v2), (3, .ref v3), (4, .int v4), (6, .ref v6), (7, .int v7)]) rfl ?_
            refine k_goto C (pc := 283) (tgt := 116) dL_randomBook_283 (by decide) ?_
            refine k_lv (pc := 116) [1, 2, 3, 4, 5, 0] (lv' := [(0, .ref (h 0)), (1, .ref v1), (2, .ref v2), (3, .ref v3), (4, .int v4), (5, .int (v5 + (1 : Int32)))]) rfl ?_
            exact hK116 _ _ S117 mu121 (((((u + 1) + q72) + q114) + q117) + q120) v1 v2 v3 v4 (v5 + (1 : Int32)) hI hR H
          · have H := H.2 c_248
            refine k_ldcS C (pc := 251) (tx := " page") (q := cA (100 + 8)) (C.2.1.2.2.1 ("WidowWatchLaw", 166, " page", 8) (List.mem_of_getElem? (i := 13) rfl)) dL_randomBook_251 ?_
            refine k_goto C (pc := 253) (tgt := 258) dL_randomBook_253 (by decide) ?_
            obtain ⟨x122, hx122, H⟩ := H
            obtain ⟨i122, hi122⟩ := List.getElem?_of_mem (hR.G hx122)
            obtain ⟨hc_, H⟩ := H
            refine k_callAr C (pc := 258) (l_runV C hF (As := [.ref (cA (100 + 8))]) (rest := [.ref v1, .ref (h 0)]) (ci := 12) (q0 := i122) (conJ4_append_15ec4_K l D cA mu107 r106 8 _ (show 8 < 10 from by decide) H hR) ⟨k_cwB C tW_5_93 tW_5_90 tW_1_24 okJ4_append_15ec4 rfl rfl ⟨Nat.le_of_ble_eq_true rfl, Nat.le_of_ble_eq_true rfl⟩, C.w tW_5_91, C.w tW_5_92⟩ hi122 rfl rfl rfl rfl (Nat.le_of_ble_eq_true rfl) dL_randomBook_258 ⟨hc_, (by show 16 * ((u + 1) + q72) + 0 ≤ 16 * cB; omega)⟩) (fun r123 w1 hw_ => ?_)
            obtain ⟨mu124, hR, H⟩ := hw_
            obtain ⟨x125, hx125, H⟩ := H
            obtain ⟨i125, hi125⟩ := List.getElem?_of_mem (hR.G hx125)
            obtain ⟨q127, hc_, H⟩ := H
            refine k_callAr C (pc := 261) (l_runV C hF (As := []) (rest := [.ref v1, .ref (h 0)]) (ci := 12) (q0 := i125) (conJ4_toString_0e30d l D cA q127 mu124 r123 _  H hR) ⟨k_cwB C tW_5_192 tW_5_189 tW_1_24 okJ4_toString_0e30d rfl rfl ⟨Nat.le_of_ble_eq_true rfl, Nat.le_of_ble_eq_true rfl⟩, C.w tW_5_190, C.w tW_5_191⟩ hi125 rfl rfl rfl rfl (Nat.le_of_ble_eq_true rfl) dL_randomBook_261 ⟨hc_, by show 16 * ((u + 1) + q72) + 16 * q127 ≤ 16 * cB; omega⟩) (fun r126 w1 hw_ => ?_)
            obtain ⟨mu128, hR, H⟩ := hw_
            refine k_sl ?_
            refine k_aload C 6 (pc := 264) dL_randomBook_264 rfl ?_
            obtain ⟨x129, hx129, H⟩ := H
            obtain ⟨a129, ha129, H⟩ := H
            refine l_getP C hR (pc := 266) hx129 3 (Nat.lt_of_lt_of_le (Nat.lt_succ_self _) (Nat.le_of_ble_eq_true rfl)) (ref := "WidowWatchLaw$Para") tW_2_133 rfl (v := .ref a129) (by show some (va_rf x129.2.2.2) = _; rw [ha129]; rfl) dL_randomBook_266 ?_
            obtain ⟨q130, hc_, H⟩ := H
            refine k_callAv C (pc := 269) (kw_runS C hE hF (As := [.ref (h 0), .ref v1, .ref r126, .ref a129]) (rest := []) (conL_writeAll_D l D cA h ab ac ar hst q130 S mu128 v1 r126 a129 _  H hI hR) ⟨k_cwB C tW_5_31 tW_5_29 tW_1_0 okL_writeAll rfl rfl ⟨Nat.le_of_ble_eq_true rfl, Nat.le_of_ble_eq_true rfl⟩, C.w tW_5_30⟩ rfl rfl (Nat.le_of_ble_eq_true rfl) dL_randomBook_269 (kw_rm hc_ (Nat.le_refl _) hRm)) (fun w1 hw_ => ?_)
            obtain ⟨w_, S130, mu130, hI, hR, H⟩ := hw_
            refine k_sl ?_
            refine k_aload_n C 3 (pc := 272) dL_randomBook_272 rfl rfl ?_
            refine k_iload C 5 (pc := 273) dL_randomBook_273 rfl ?_
            refine k_aload C 6 (pc := 275) dL_randomBook_275 rfl ?_
            obtain ⟨x131, hx131, H⟩ := H
            obtain ⟨i131, hi131⟩ := List.getElem?_of_mem (hR.B hx131)
            obtain ⟨q133, hc_, H⟩ := H
            refine k_callAv C (pc := 277) (l_runV C hF (As := [.int v5, .ref v6]) (rest := []) (ci := 7) (q0 := i131) (conX7_adds l D cA q133 mu130 v3 v5 v6 _  H hR) ⟨k_cwB C tW_2_146 tW_2_143 tW_1_9 okX7_adds rfl rfl ⟨Nat.le_of_ble_eq_true rfl, Nat.le_of_ble_eq_true rfl⟩, C.w tW_2_144, C.w tW_2_145⟩ hi131 rfl rfl rfl rfl (Nat.le_of_ble_eq_true rfl) dL_randomBook_277 ⟨hc_, by show 16 * ((((u + 1) + q72) + q127) + q130) + 16 * q133 ≤ 16 * cB; omega⟩) (fun w1 hw_ => ?_)
            obtain ⟨mu134, hR, H⟩ := hw_
            refine k_sl ?_
            refine k_iinc C (pc := 280) (k := 5) (v := v5 + (1 : Int32)) dL_randomBook_280 rfl rfl (Nat.lt_of_lt_of_le (Nat.lt_succ_self _) (Nat.le_of_ble_eq_true rfl)) (lv' := [(5, .int (v5 + (1 : Int32))), (0, .ref (h 0)), (1, .ref v1), (2, .ref v2), (3, .ref v3), (4, .int v4), (6, .ref v6), (7, .int v7)]) rfl ?_
            refine k_goto C (pc := 283) (tgt := 116) dL_randomBook_283 (by decide) ?_
            refine k_lv (pc := 116) [1, 2, 3, 4, 5, 0] (lv' := [(0, .ref (h 0)), (1, .ref v1), (2, .ref v2), (3, .ref v3), (4, .int v4), (5, .int (v5 + (1 : Int32)))]) rfl ?_
            exact hK116 _ _ S130 mu134 (((((u + 1) + q72) + q127) + q130) + q133) v1 v2 v3 v4 (v5 + (1 : Int32)) hI hR H
      · have H := H.2 c_179
        refine k_aload C 6 (pc := 182) dL_randomBook_182 rfl ?_
        refine k_aload C 6 (pc := 184) dL_randomBook_184 rfl ?_
        obtain ⟨x135, hx135, H⟩ := H
        obtain ⟨a135, ha135, H⟩ := H
        refine l_getP C hR (pc := 186) hx135 3 (Nat.lt_of_lt_of_le (Nat.lt_succ_self _) (Nat.le_of_ble_eq_true rfl)) (ref := "WidowWatchLaw$Para") tW_2_133 rfl (v := .ref a135) (by show some (va_rf x135.2.2.2) = _; rw [ha135]; rfl) dL_randomBook_186 ?_
        refine k_iconst C (pc := 189) (v := (1 : Int32)) dL_randomBook_189 rfl ?_
        refine k_aload_n C 2 (pc := 190) dL_randomBook_190 rfl rfl ?_
        refine k_aload_n C 3 (pc := 191) dL_randomBook_191 rfl rfl ?_
        obtain ⟨x136, hx136, H⟩ := H
        refine l_getB C hR (pc := 192) hx136 0 (Nat.lt_of_lt_of_le (Nat.lt_succ_self _) (Nat.le_of_ble_eq_true rfl)) (ref := "WidowWatchLaw$Book") tW_2_63 rfl (v := .int x136.1) rfl dL_randomBook_192 ?_
        refine k_aload_n C 3 (pc := 195) dL_randomBook_195 rfl rfl ?_
        obtain ⟨x137, hx137, H⟩ := H
        refine l_getB C hR (pc := 196) hx137 2 (Nat.lt_of_lt_of_le (Nat.lt_succ_self _) (Nat.le_of_ble_eq_true rfl)) (ref := "WidowWatchLaw$Book") tW_2_67 rfl (v := .int x137.2.2.1) rfl dL_randomBook_196 ?_
        refine k_isub C (pc := 199) dL_randomBook_199 ?_
        obtain ⟨x138, hx138, H⟩ := H
        obtain ⟨i138, hi138⟩ := List.getElem?_of_mem (hR.R hx138)
        obtain ⟨hc_, H⟩ := H
        refine k_callAi C (pc := 200) (l_runV C hF (As := [.int (x136.1 - x137.2.2.1)]) (rest := [.int (1 : Int32), .ref a135, .ref v6]) (ci := 10) (q0 := i138) (conX10_below l D cA mu v2 (x136.1 - x137.2.2.1) _  H hR) ⟨k_cwB C tW_2_170 tW_2_167 tW_1_8 okX10_below rfl rfl ⟨Nat.le_of_ble_eq_true rfl, Nat.le_of_ble_eq_true rfl⟩, C.w tW_2_168, C.w tW_2_169⟩ hi138 rfl rfl rfl rfl (Nat.le_of_ble_eq_true rfl) dL_randomBook_200 ⟨hc_, (by show 16 * (u) + 0 ≤ 16 * cB; omega)⟩) (fun r139 w1 hw_ => ?_)
        obtain ⟨mu140, hR, H⟩ := hw_
        refine k_iadd C (pc := 203) dL_randomBook_203 ?_
        obtain ⟨q142, hc_, H⟩ := H
        refine k_callAr C (pc := 204) (l_runS C hF (As := [.ref a135, .int ((1 : Int32) + r139)]) (rest := [.ref v6]) (conL_with l D cA q142 mu140 a135 ((1 : Int32) + r139) _  H hR) ⟨k_cwB C tW_5_21 tW_5_19 tW_1_0 okL_with rfl rfl ⟨Nat.le_of_ble_eq_true rfl, Nat.le_of_ble_eq_true rfl⟩, C.w tW_5_20⟩ rfl rfl (Nat.le_of_ble_eq_true rfl) dL_randomBook_204 ⟨hc_, by show 16 * (u) + 16 * q142 ≤ 16 * cB; omega⟩) (fun r141 w1 hw_ => ?_)
        obtain ⟨mu143, hR, H⟩ := hw_
        refine k_sl ?_
        obtain ⟨x144, hx144, H⟩ := H
        refine l_putP C hR (pc := 207) hx144 3 (Nat.lt_of_lt_of_le (Nat.lt_succ_self _) (Nat.le_of_ble_eq_true rfl)) (ref := "WidowWatchLaw$Para") tW_2_133 rfl rfl  rfl rfl rfl (x1 := ((x144.1, x144.2.1, x144.2.2.1, some r141))) rfl dL_randomBook_207 (fun w1 hR => ?_)
        obtain ⟨mu145, hm145⟩ : ∃ m_, m_ = sP mu143 v6 (x144.1, x144.2.1, x144.2.2.1, some r141) := ⟨_, rfl⟩
        rw [← hm145] at hR
        have H := H mu145 hm145
        refine k_iinc C (pc := 210) (k := 7) (v := v7 + (-1 : Int32)) dL_randomBook_210 rfl rfl (Nat.lt_of_lt_of_le (Nat.lt_succ_self _) (Nat.le_of_ble_eq_true rfl)) (lv' := [(7, .int (v7 + (-1 : Int32))), (0, .ref (h 0)), (1, .ref v1), (2, .ref v2), (3, .ref v3), (4, .int v4), (5, .int v5), (6, .ref v6)]) rfl ?_
        refine k_goto C (pc := 213) (tgt := 177) dL_randomBook_213 (by decide) ?_
        refine k_lv (pc := 177) [1, 2, 3, 4, 5, 6, 7, 0] (lv' := [(0, .ref (h 0)), (1, .ref v1), (2, .ref v2), (3, .ref v3), (4, .int v4), (5, .int v5), (6, .ref v6), (7, .int (v7 + (-1 : Int32)))]) rfl ?_
        exact ih177 _ _ S mu145 (u + q142) v1 v2 v3 v4 v5 v6 (v7 + (-1 : Int32)) hI hR H
  have B165 : ∀ (K116 : ivS → Mu → Nat → Nat → Nat → Nat → Int32 → Int32 → Prop) (hK116 : ∀ (ws w : va_W) (S : ivS) (mu : Mu) (u : Nat) (v1 : Nat) (v2 : Nat) (v3 : Nat) (v4 : Int32) (v5 : Int32), ivI cA h ab ac ar S false w → LR cA w ws mu → K116 S mu u v1 v2 v3 v4 v5 → Kf p l e { frames := 11, cells := cB, slots := 16 * cB, locals := 244 } s m args below meth c D (va_A ws0 s.heap.size) 8 u (16 * u) (MQ below (QC D ws0 s.heap.size (PR (fun r w2 => ∃ w1 S1 m1, ivI cA h ab ac ar S1 false w1 ∧ LR cA w1 w2 m1 ∧ Post r S1 m1))) args s cB (16 * cB) (va_A ws0 s.heap.size)) ws 116 [(0, .ref (h 0)), (1, .ref v1), (2, .ref v2), (3, .ref v3), (4, .int v4), (5, .int v5)] []) (ws w : va_W) (S : ivS) (mu : Mu) (u : Nat) (v1 : Nat) (v2 : Nat) (v3 : Nat) (v4 : Int32) (v5 : Int32) (v6 : Nat) (s0 : Nat) (s1 : Int32), ivI cA h ab ac ar S false w → LR cA w ws mu → wpL_randomBook_b165 cB Post K116 S mu u v1 v2 v3 v4 v5 v6 s0 s1 → Kf p l e { frames := 11, cells := cB, slots := 16 * cB, locals := 244 } s m args below meth c D (va_A ws0 s.heap.size) 8 u (16 * u) (MQ below (QC D ws0 s.heap.size (PR (fun r w2 => ∃ w1 S1 m1, ivI cA h ab ac ar S1 false w1 ∧ LR cA w1 w2 m1 ∧ Post r S1 m1))) args s cB (16 * cB) (va_A ws0 s.heap.size)) ws 165 [(0, .ref (h 0)), (1, .ref v1), (2, .ref v2), (3, .ref v3), (4, .int v4), (5, .int v5), (6, .ref v6)] [.int s1, .ref s0] := by
    intro K116 hK116 ws w S mu u v1 v2 v3 v4 v5 v6 s0 s1 hI hR H
    have H : ∃ x64, mP mu s0 = some x64 ∧ (s1 = 0 ∨ s1 = 1) ∧ ∀ mu65, mu65 = sP mu s0 (x64.1, s1, x64.2.2.1, x64.2.2.2) → ∃ x66, mR mu65 v2 = some x66 ∧ u ≤ cB ∧ wpX10_below mu65 v2 (4 : Int32) (fun r67 mu68 => ∃ m_, wpL_randomBook_L177 cB Post K116 m_ S mu68 u v1 v2 v3 v4 v5 v6 ((1 : Int32) + r67)) := H
    obtain ⟨x64, hx64, H⟩ := H
    obtain ⟨hb_, H⟩ := H
    refine l_putP C hR (pc := 165) hx64 1 (Nat.lt_of_lt_of_le (Nat.lt_succ_self _) (Nat.le_of_ble_eq_true rfl)) (ref := "WidowWatchLaw$Para") tW_2_127 rfl rfl  (ty := .boolean) rfl (k_nar hb_) (k_fit hb_) (x1 := ((x64.1, s1, x64.2.2.1, x64.2.2.2))) rfl dL_randomBook_165 (fun w1 hR => ?_)
    obtain ⟨mu65, hm65⟩ : ∃ m_, m_ = sP mu s0 (x64.1, s1, x64.2.2.1, x64.2.2.2) := ⟨_, rfl⟩
    rw [← hm65] at hR
    have H := H mu65 hm65
    refine k_iconst C (pc := 168) (v := (1 : Int32)) dL_randomBook_168 rfl ?_
    refine k_aload_n C 2 (pc := 169) dL_randomBook_169 rfl rfl ?_
    refine k_iconst C (pc := 170) (v := (4 : Int32)) dL_randomBook_170 rfl ?_
    obtain ⟨x66, hx66, H⟩ := H
    obtain ⟨i66, hi66⟩ := List.getElem?_of_mem (hR.R hx66)
    obtain ⟨hc_, H⟩ := H
    refine k_callAi C (pc := 171) (l_runV C hF (As := [.int (4 : Int32)]) (rest := [.int (1 : Int32)]) (ci := 10) (q0 := i66) (conX10_below l D cA mu65 v2 (4 : Int32) _  H hR) ⟨k_cwB C tW_2_170 tW_2_167 tW_1_8 okX10_below rfl rfl ⟨Nat.le_of_ble_eq_true rfl, Nat.le_of_ble_eq_true rfl⟩, C.w tW_2_168, C.w tW_2_169⟩ hi66 rfl rfl rfl rfl (Nat.le_of_ble_eq_true rfl) dL_randomBook_171 ⟨hc_, (by show 16 * (u) + 0 ≤ 16 * cB; omega)⟩) (fun r67 w1 hw_ => ?_)
    obtain ⟨mu68, hR, H⟩ := hw_
    refine k_iadd C (pc := 174) dL_randomBook_174 ?_
    refine k_istore C (pc := 175) dL_randomBook_175 (Nat.lt_of_lt_of_le (Nat.lt_succ_self _) (Nat.le_of_ble_eq_true rfl)) (lv' := [(7, .int ((1 : Int32) + r67)), (0, .ref (h 0)), (1, .ref v1), (2, .ref v2), (3, .ref v3), (4, .int v4), (5, .int v5), (6, .ref v6)]) rfl ?_
    obtain ⟨n_, H⟩ := H
    refine k_lv (pc := 177) [1, 2, 3, 4, 5, 6, 7, 0] (lv' := [(0, .ref (h 0)), (1, .ref v1), (2, .ref v2), (3, .ref v3), (4, .int v4), (5, .int v5), (6, .ref v6), (7, .int ((1 : Int32) + r67))]) rfl ?_
    exact B177 K116 hK116 n_ _ _ S mu68 u v1 v2 v3 v4 v5 v6 ((1 : Int32) + r67) hI hR H
  have B147 : ∀ (K116 : ivS → Mu → Nat → Nat → Nat → Nat → Int32 → Int32 → Prop) (hK116 : ∀ (ws w : va_W) (S : ivS) (mu : Mu) (u : Nat) (v1 : Nat) (v2 : Nat) (v3 : Nat) (v4 : Int32) (v5 : Int32), ivI cA h ab ac ar S false w → LR cA w ws mu → K116 S mu u v1 v2 v3 v4 v5 → Kf p l e { frames := 11, cells := cB, slots := 16 * cB, locals := 244 } s m args below meth c D (va_A ws0 s.heap.size) 8 u (16 * u) (MQ below (QC D ws0 s.heap.size (PR (fun r w2 => ∃ w1 S1 m1, ivI cA h ab ac ar S1 false w1 ∧ LR cA w1 w2 m1 ∧ Post r S1 m1))) args s cB (16 * cB) (va_A ws0 s.heap.size)) ws 116 [(0, .ref (h 0)), (1, .ref v1), (2, .ref v2), (3, .ref v3), (4, .int v4), (5, .int v5)] []) (ws w : va_W) (S : ivS) (mu : Mu) (u : Nat) (v1 : Nat) (v2 : Nat) (v3 : Nat) (v4 : Int32) (v5 : Int32) (v6 : Nat) (s0 : Nat) (s1 : Int32), ivI cA h ab ac ar S false w → LR cA w ws mu → wpL_randomBook_b147 cB Post K116 S mu u v1 v2 v3 v4 v5 v6 s0 s1 → Kf p l e { frames := 11, cells := cB, slots := 16 * cB, locals := 244 } s m args below meth c D (va_A ws0 s.heap.size) 8 u (16 * u) (MQ below (QC D ws0 s.heap.size (PR (fun r w2 => ∃ w1 S1 m1, ivI cA h ab ac ar S1 false w1 ∧ LR cA w1 w2 m1 ∧ Post r S1 m1))) args s cB (16 * cB) (va_A ws0 s.heap.size)) ws 147 [(0, .ref (h 0)), (1, .ref v1), (2, .ref v2), (3, .ref v3), (4, .int v4), (5, .int v5), (6, .ref v6)] [.int s1, .ref s0] := by
    intro K116 hK116 ws w S mu u v1 v2 v3 v4 v5 v6 s0 s1 hI hR H
    have H : ∃ x59, mP mu s0 = some x59 ∧ (s1 = 0 ∨ s1 = 1) ∧ ∀ mu60, mu60 = sP mu s0 (s1, x59.2.1, x59.2.2.1, x59.2.2.2) → ∃ x61, mR mu60 v2 = some x61 ∧ u ≤ cB ∧ wpX10_below mu60 v2 (5 : Int32) (fun r62 mu63 => (¬ r62 = 0 → wpL_randomBook_b165 cB Post K116 S mu63 u v1 v2 v3 v4 v5 v6 v6 (0 : Int32)) ∧ (r62 = 0 → wpL_randomBook_b165 cB Post K116 S mu63 u v1 v2 v3 v4 v5 v6 v6 (1 : Int32))) := H
    obtain ⟨x59, hx59, H⟩ := H
    obtain ⟨hb_, H⟩ := H
    refine l_putP C hR (pc := 147) hx59 0 (Nat.lt_of_lt_of_le (Nat.lt_succ_self _) (Nat.le_of_ble_eq_true rfl)) (ref := "WidowWatchLaw$Para") tW_2_124 rfl rfl  (ty := .boolean) rfl (k_nar hb_) (k_fit hb_) (x1 := ((s1, x59.2.1, x59.2.2.1, x59.2.2.2))) rfl dL_randomBook_147 (fun w1 hR => ?_)
    obtain ⟨mu60, hm60⟩ : ∃ m_, m_ = sP mu s0 (s1, x59.2.1, x59.2.2.1, x59.2.2.2) := ⟨_, rfl⟩
    rw [← hm60] at hR
    have H := H mu60 hm60
    refine k_aload C 6 (pc := 150) dL_randomBook_150 rfl ?_
    refine k_aload_n C 2 (pc := 152) dL_randomBook_152 rfl rfl ?_
    refine k_iconst C (pc := 153) (v := (5 : Int32)) dL_randomBook_153 rfl ?_
    obtain ⟨x61, hx61, H⟩ := H
    obtain ⟨i61, hi61⟩ := List.getElem?_of_mem (hR.R hx61)
    obtain ⟨hc_, H⟩ := H
    refine k_callAi C (pc := 154) (l_runV C hF (As := [.int (5 : Int32)]) (rest := [.ref v6]) (ci := 10) (q0 := i61) (conX10_below l D cA mu60 v2 (5 : Int32) _  H hR) ⟨k_cwB C tW_2_170 tW_2_167 tW_1_8 okX10_below rfl rfl ⟨Nat.le_of_ble_eq_true rfl, Nat.le_of_ble_eq_true rfl⟩, C.w tW_2_168, C.w tW_2_169⟩ hi61 rfl rfl rfl rfl (Nat.le_of_ble_eq_true rfl) dL_randomBook_154 ⟨hc_, (by show 16 * (u) + 0 ≤ 16 * cB; omega)⟩) (fun r62 w1 hw_ => ?_)
    obtain ⟨mu63, hR, H⟩ := hw_
    refine k_if_ne C (pc := 157) (tgt := 164) dL_randomBook_157 (by decide) (fun c_157 => ?_) (fun c_157 => ?_)
    · have H := H.1 c_157
      refine k_iconst C (pc := 164) (v := (0 : Int32)) dL_randomBook_164 rfl ?_
      refine k_lv (pc := 165) [0, 1, 2, 3, 4, 5, 6] (lv' := [(0, .ref (h 0)), (1, .ref v1), (2, .ref v2), (3, .ref v3), (4, .int v4), (5, .int v5), (6, .ref v6)]) rfl ?_
      exact B165 K116 hK116 _ _ S mu63 u v1 v2 v3 v4 v5 v6 v6 (0 : Int32) hI hR H
    · have H := H.2 c_157
      refine k_iconst C (pc := 160) (v := (1 : Int32)) dL_randomBook_160 rfl ?_
      refine k_goto C (pc := 161) (tgt := 165) dL_randomBook_161 (by decide) ?_
      refine k_lv (pc := 165) [0, 1, 2, 3, 4, 5, 6] (lv' := [(0, .ref (h 0)), (1, .ref v1), (2, .ref v2), (3, .ref v3), (4, .int v4), (5, .int v5), (6, .ref v6)]) rfl ?_
      exact B165 K116 hK116 _ _ S mu63 u v1 v2 v3 v4 v5 v6 v6 (1 : Int32) hI hR H
  have B116 : ∀  (n : Nat) (ws w : va_W) (S : ivS) (mu : Mu) (u : Nat) (v1 : Nat) (v2 : Nat) (v3 : Nat) (v4 : Int32) (v5 : Int32), ivI cA h ab ac ar S false w → LR cA w ws mu → wpL_randomBook_L116 cB Post  n S mu u v1 v2 v3 v4 v5 → Kf p l e { frames := 11, cells := cB, slots := 16 * cB, locals := 244 } s m args below meth c D (va_A ws0 s.heap.size) 8 u (16 * u) (MQ below (QC D ws0 s.heap.size (PR (fun r w2 => ∃ w1 S1 m1, ivI cA h ab ac ar S1 false w1 ∧ LR cA w1 w2 m1 ∧ Post r S1 m1))) args s cB (16 * cB) (va_A ws0 s.heap.size)) ws 116 [(0, .ref (h 0)), (1, .ref v1), (2, .ref v2), (3, .ref v3), (4, .int v4), (5, .int v5)] [] := by
    intro  n
    induction n with
    | zero =>
      intro ws w S mu u v1 v2 v3 v4 v5 hI hR H
      exact H.elim
    | succ nn116 ih116 =>
      intro ws w S mu u v1 v2 v3 v4 v5 hI hR H
      have H : (v4 ≤ v5 → ∃ x39, mR mu v2 = some x39 ∧ u ≤ cB ∧ wpX10_below mu v2 (2 : Int32) (fun r40 mu41 => (¬ r40 = 0 → wpL_randomBook_b334 cB Post  S mu41 u v1 v3 v4) ∧ (r40 = 0 → ∃ m_, wpL_randomBook_L297 cB Post  m_ S mu41 u v1 v2 v3 v4 (0 : Int32)))) ∧ (¬ v4 ≤ v5 → u + 1 ≤ cB ∧ ∀ a51, frM mu a51 → ∀ mu52, mu52 = sP mu a51 (0, 0, 0, none) → ∃ q54, (u + 1) + q54 ≤ cB ∧ wpX8_init q54 mu52 a51 (fun mu55 => ∃ x56, mR mu55 v2 = some x56 ∧ ((u + 1) + q54) ≤ cB ∧ wpX10_below mu55 v2 (4 : Int32) (fun r57 mu58 => (¬ r57 = 0 → wpL_randomBook_b147 cB Post (wpL_randomBook_L116 cB Post  nn116) S mu58 ((u + 1) + q54) v1 v2 v3 v4 v5 a51 a51 (0 : Int32)) ∧ (r57 = 0 → wpL_randomBook_b147 cB Post (wpL_randomBook_L116 cB Post  nn116) S mu58 ((u + 1) + q54) v1 v2 v3 v4 v5 a51 a51 (1 : Int32))))) := H
      refine k_iload C 5 (pc := 116) dL_randomBook_116 rfl ?_
      refine k_iload C 4 (pc := 118) dL_randomBook_118 rfl ?_
      refine k_icmp_ge C (pc := 120) (tgt := 286) dL_randomBook_120 (by decide) (fun c_120 => ?_) (fun c_120 => ?_)
      · have H := H.1 c_120
        refine k_aload_n C 2 (pc := 286) dL_randomBook_286 rfl rfl ?_
        refine k_iconst C (pc := 287) (v := (2 : Int32)) dL_randomBook_287 rfl ?_
        obtain ⟨x39, hx39, H⟩ := H
        obtain ⟨i39, hi39⟩ := List.getElem?_of_mem (hR.R hx39)
        obtain ⟨hc_, H⟩ := H
        refine k_callAi C (pc := 288) (l_runV C hF (As := [.int (2 : Int32)]) (rest := []) (ci := 10) (q0 := i39) (conX10_below l D cA mu v2 (2 : Int32) _  H hR) ⟨k_cwB C tW_2_170 tW_2_167 tW_1_8 okX10_below rfl rfl ⟨Nat.le_of_ble_eq_true rfl, Nat.le_of_ble_eq_true rfl⟩, C.w tW_2_168, C.w tW_2_169⟩ hi39 rfl rfl rfl rfl (Nat.le_of_ble_eq_true rfl) dL_randomBook_288 ⟨hc_, (by show 16 * (u) + 0 ≤ 16 * cB; omega)⟩) (fun r40 w1 hw_ => ?_)
        obtain ⟨mu41, hR, H⟩ := hw_
        refine k_if_ne C (pc := 291) (tgt := 334) dL_randomBook_291 (by decide) (fun c_291 => ?_) (fun c_291 => ?_)
        · have H := H.1 c_291
          refine k_lv (pc := 334) [0, 1, 3, 4] (lv' := [(0, .ref (h 0)), (1, .ref v1), (3, .ref v3), (4, .int v4)]) rfl ?_
          exact B334  _ _ S mu41 u v1 v3 v4 hI hR H
        · have H := H.2 c_291
          refine k_iconst C (pc := 294) (v := (0 : Int32)) dL_randomBook_294 rfl ?_
          refine k_istore C (pc := 295) dL_randomBook_295 (Nat.lt_of_lt_of_le (Nat.lt_succ_self _) (Nat.le_of_ble_eq_true rfl)) (lv' := [(5, .int (0 : Int32)), (0, .ref (h 0)), (1, .ref v1), (2, .ref v2), (3, .ref v3), (4, .int v4)]) rfl ?_
          obtain ⟨n_, H⟩ := H
          refine k_lv (pc := 297) [1, 2, 3, 4, 5, 0] (lv' := [(0, .ref (h 0)), (1, .ref v1), (2, .ref v2), (3, .ref v3), (4, .int v4), (5, .int (0 : Int32))]) rfl ?_
          exact B297  n_ _ _ S mu41 u v1 v2 v3 v4 (0 : Int32) hI hR H
      · have H := H.2 c_120
        obtain ⟨hc_, H⟩ := H
        refine l_newP C hR (u := u) (pc := 123) tW_2_155 tW_2_117 tW_1_22 hc_ (Nat.mul_le_mul_left 16 hc_) dL_randomBook_123 (fun a51 w1 hf_ hR => ?_)
        have H := H a51 hf_
        obtain ⟨mu52, hm52⟩ : ∃ m_, m_ = sP mu a51 (0, 0, 0, none) := ⟨_, rfl⟩
        rw [← hm52] at hR
        have H := H mu52 hm52
        refine k_dup C (pc := 126) dL_randomBook_126 rfl ?_
        obtain ⟨q54, hc_, H⟩ := H
        refine k_callAv C (pc := 127) (l_runIN C hF (As := []) (rest := [.ref a51]) (conX8_init l D cA q54 mu52 a51 _  H hR) ⟨k_cwN C tW_2_120 (k_n15 C) tW_1_22 okX8_init rfl rfl ⟨Nat.le_of_ble_eq_true rfl, Nat.le_of_ble_eq_true rfl⟩, rfl, C.w tW_2_119⟩ rfl rfl (Nat.le_of_ble_eq_true rfl) dL_randomBook_127 ⟨hc_, by show 16 * (u + 1) + 16 * q54 ≤ 16 * cB; omega⟩) (fun w1 hw_ => ?_)
        obtain ⟨mu55, hR, H⟩ := hw_
        refine k_sl ?_
        refine k_astore C (pc := 130) dL_randomBook_130 (Nat.lt_of_lt_of_le (Nat.lt_succ_self _) (Nat.le_of_ble_eq_true rfl)) (lv' := [(6, .ref a51), (0, .ref (h 0)), (1, .ref v1), (2, .ref v2), (3, .ref v3), (4, .int v4), (5, .int v5)]) rfl ?_
        refine k_aload C 0 (pc := 132) dL_randomBook_132 rfl ?_
        refine k_aload_n C 3 (pc := 134) dL_randomBook_134 rfl rfl ?_
        refine k_iconst C (pc := 135) (v := (4 : Int32)) dL_randomBook_135 rfl ?_
        obtain ⟨x56, hx56, H⟩ := H
        obtain ⟨i56, hi56⟩ := List.getElem?_of_mem (hR.R hx56)
        obtain ⟨hc_, H⟩ := H
        refine k_callAi C (pc := 136) (l_runV C hF (As := [.int (4 : Int32)]) (rest := [.ref a51]) (ci := 10) (q0 := i56) (conX10_below l D cA mu55 v2 (4 : Int32) _  H hR) ⟨k_cwB C tW_2_170 tW_2_167 tW_1_8 okX10_below rfl rfl ⟨Nat.le_of_ble_eq_true rfl, Nat.le_of_ble_eq_true rfl⟩, C.w tW_2_168, C.w tW_2_169⟩ hi56 rfl rfl rfl rfl (Nat.le_of_ble_eq_true rfl) dL_randomBook_136 ⟨hc_, (by show 16 * ((u + 1) + q54) + 0 ≤ 16 * cB; omega)⟩) (fun r57 w1 hw_ => ?_)
        obtain ⟨mu58, hR, H⟩ := hw_
        refine k_if_ne C (pc := 139) (tgt := 146) dL_randomBook_139 (by decide) (fun c_139 => ?_) (fun c_139 => ?_)
        · have H := H.1 c_139
          refine k_iconst C (pc := 146) (v := (0 : Int32)) dL_randomBook_146 rfl ?_
          refine k_lv (pc := 147) [1, 2, 3, 4, 5, 6, 0] (lv' := [(0, .ref (h 0)), (1, .ref v1), (2, .ref v2), (3, .ref v3), (4, .int v4), (5, .int v5), (6, .ref a51)]) rfl ?_
          exact B147 (wpL_randomBook_L116 cB Post  nn116) ih116 _ _ S mu58 ((u + 1) + q54) v1 v2 v3 v4 v5 a51 a51 (0 : Int32) hI hR H
        · have H := H.2 c_139
          refine k_iconst C (pc := 142) (v := (1 : Int32)) dL_randomBook_142 rfl ?_
          refine k_goto C (pc := 143) (tgt := 147) dL_randomBook_143 (by decide) ?_
          refine k_lv (pc := 147) [1, 2, 3, 4, 5, 6, 0] (lv' := [(0, .ref (h 0)), (1, .ref v1), (2, .ref v2), (3, .ref v3), (4, .int v4), (5, .int v5), (6, .ref a51)]) rfl ?_
          exact B147 (wpL_randomBook_L116 cB Post  nn116) ih116 _ _ S mu58 ((u + 1) + q54) v1 v2 v3 v4 v5 a51 a51 (1 : Int32) hI hR H
  have B106 : ∀  (ws w : va_W) (S : ivS) (mu : Mu) (u : Nat) (v1 : Nat) (v2 : Nat) (v3 : Nat), ivI cA h ab ac ar S false w → LR cA w ws mu → wpL_randomBook_b106 cB Post  S mu u v1 v2 v3 → Kf p l e { frames := 11, cells := cB, slots := 16 * cB, locals := 244 } s m args below meth c D (va_A ws0 s.heap.size) 8 u (16 * u) (MQ below (QC D ws0 s.heap.size (PR (fun r w2 => ∃ w1 S1 m1, ivI cA h ab ac ar S1 false w1 ∧ LR cA w1 w2 m1 ∧ Post r S1 m1))) args s cB (16 * cB) (va_A ws0 s.heap.size)) ws 106 [(0, .ref (h 0)), (1, .ref v1), (2, .ref v2), (3, .ref v3)] [] := by
    intro  ws w S mu u v1 v2 v3 hI hR H
    have H : ∃ x36, mR mu v2 = some x36 ∧ u ≤ cB ∧ wpX10_below mu v2 (4 : Int32) (fun r37 mu38 => ∃ m_, wpL_randomBook_L116 cB Post  m_ S mu38 u v1 v2 v3 r37 (0 : Int32)) := H
    refine k_aload_n C 2 (pc := 106) dL_randomBook_106 rfl rfl ?_
    refine k_iconst C (pc := 107) (v := (4 : Int32)) dL_randomBook_107 rfl ?_
    obtain ⟨x36, hx36, H⟩ := H
    obtain ⟨i36, hi36⟩ := List.getElem?_of_mem (hR.R hx36)
    obtain ⟨hc_, H⟩ := H
    refine k_callAi C (pc := 108) (l_runV C hF (As := [.int (4 : Int32)]) (rest := []) (ci := 10) (q0 := i36) (conX10_below l D cA mu v2 (4 : Int32) _  H hR) ⟨k_cwB C tW_2_170 tW_2_167 tW_1_8 okX10_below rfl rfl ⟨Nat.le_of_ble_eq_true rfl, Nat.le_of_ble_eq_true rfl⟩, C.w tW_2_168, C.w tW_2_169⟩ hi36 rfl rfl rfl rfl (Nat.le_of_ble_eq_true rfl) dL_randomBook_108 ⟨hc_, (by show 16 * (u) + 0 ≤ 16 * cB; omega)⟩) (fun r37 w1 hw_ => ?_)
    obtain ⟨mu38, hR, H⟩ := hw_
    refine k_istore C (pc := 111) dL_randomBook_111 (Nat.lt_of_lt_of_le (Nat.lt_succ_self _) (Nat.le_of_ble_eq_true rfl)) (lv' := [(4, .int r37), (0, .ref (h 0)), (1, .ref v1), (2, .ref v2), (3, .ref v3)]) rfl ?_
    refine k_iconst C (pc := 113) (v := (0 : Int32)) dL_randomBook_113 rfl ?_
    refine k_istore C (pc := 114) dL_randomBook_114 (Nat.lt_of_lt_of_le (Nat.lt_succ_self _) (Nat.le_of_ble_eq_true rfl)) (lv' := [(5, .int (0 : Int32)), (4, .int r37), (0, .ref (h 0)), (1, .ref v1), (2, .ref v2), (3, .ref v3)]) rfl ?_
    obtain ⟨n_, H⟩ := H
    refine k_lv (pc := 116) [2, 3, 4, 5, 1, 0] (lv' := [(0, .ref (h 0)), (1, .ref v1), (2, .ref v2), (3, .ref v3), (4, .int r37), (5, .int (0 : Int32))]) rfl ?_
    exact B116  n_ _ _ S mu38 u v1 v2 v3 r37 (0 : Int32) hI hR H
  refine k_eq (ws' := ws0) (lv' := [(0, .ref (h 0)), (1, .ref v1), (2, .ref v2)]) (st' := []) rfl rfl rfl ?_
  have H : 0 + 1 ≤ cB ∧ ∀ a1, frM mu a1 → ∀ mu2, mu2 = sB mu a1 (0, 0, 0, 0, none, none, none, none, none, 0) → ∃ q4, (0 + 1) + q4 ≤ cB ∧ wpX7_init q4 mu2 a1 (fun mu5 => ∃ x6, mR mu5 v2 = some x6 ∧ ((0 + 1) + q4) ≤ cB ∧ wpX10_below mu5 v2 (8 : Int32) (fun r7 mu8 => ∃ x9, mB mu8 a1 = some x9 ∧ ∀ mu10, mu10 = sB mu8 a1 ((10 : Int32) + r7, x9.2.1, x9.2.2.1, x9.2.2.2.1, x9.2.2.2.2.1, x9.2.2.2.2.2.1, x9.2.2.2.2.2.2.1, x9.2.2.2.2.2.2.2.1, x9.2.2.2.2.2.2.2.2.1, x9.2.2.2.2.2.2.2.2.2) → ∃ x11, mR mu10 v2 = some x11 ∧ ((0 + 1) + q4) ≤ cB ∧ wpX10_below mu10 v2 (3 : Int32) (fun r12 mu13 => ∃ x14, mB mu13 a1 = some x14 ∧ ∀ mu15, mu15 = sB mu13 a1 (x14.1, (2 : Int32) + r12, x14.2.2.1, x14.2.2.2.1, x14.2.2.2.2.1, x14.2.2.2.2.2.1, x14.2.2.2.2.2.2.1, x14.2.2.2.2.2.2.2.1, x14.2.2.2.2.2.2.2.2.1, x14.2.2.2.2.2.2.2.2.2) → ∃ x16, mR mu15 v2 = some x16 ∧ ((0 + 1) + q4) ≤ cB ∧ wpX10_below mu15 v2 (5 : Int32) (fun r17 mu18 => ∃ x19, mB mu18 a1 = some x19 ∧ ∀ mu20, mu20 = sB mu18 a1 (x19.1, x19.2.1, r17, x19.2.2.2.1, x19.2.2.2.2.1, x19.2.2.2.2.2.1, x19.2.2.2.2.2.2.1, x19.2.2.2.2.2.2.2.1, x19.2.2.2.2.2.2.2.2.1, x19.2.2.2.2.2.2.2.2.2) → ∃ n21, (3 : Int32) = nI n21 ∧ n21 ≤ 1000 ∧ ((0 + 1) + q4) + (1 + n21 / 16) ≤ cB ∧ ∀ a21, frM mu20 a21 → ∀ mu22, mu22 = sI mu20 a21 (n21, fun _ => 0) → ∃ x23, mB mu22 a1 = some x23 ∧ ∃ n24 f24 k24, mI mu22 a21 = some (n24, f24) ∧ (0 : Int32) = nI k24 ∧ k24 < n24 ∧ n24 ≤ 1000 ∧ ∀ mu25, mu25 = sI mu22 a21 (n24, upd f24 k24 x23.1) → ∃ x26, mB mu25 a1 = some x26 ∧ ∃ n27 f27 k27, mI mu25 a21 = some (n27, f27) ∧ (1 : Int32) = nI k27 ∧ k27 < n27 ∧ n27 ≤ 1000 ∧ ∀ mu28, mu28 = sI mu25 a21 (n27, upd f27 k27 x26.2.1) → ∃ x29, mB mu28 a1 = some x29 ∧ ∃ n30 f30 k30, mI mu28 a21 = some (n30, f30) ∧ (2 : Int32) = nI k30 ∧ k30 < n30 ∧ n30 ≤ 1000 ∧ ∀ mu31, mu31 = sI mu28 a21 (n30, upd f30 k30 x29.2.2.1) → ∃ q32, (((0 + 1) + q4) + (1 + n21 / 16)) + q32 ≤ cB ∧ wpL_writeAll_K q32 S mu31 v1 0 a21 (fun S32 mu32 => ∃ x33, mR mu32 v2 = some x33 ∧ ((((0 + 1) + q4) + (1 + n21 / 16)) + q32) ≤ cB ∧ wpX10_below mu32 v2 (2 : Int32) (fun r34 mu35 => (¬ r34 = 0 → wpL_randomBook_b106 cB Post  S32 mu35 ((((0 + 1) + q4) + (1 + n21 / 16)) + q32) v1 v2 a1) ∧ (r34 = 0 → ∃ x146, mR mu35 v2 = some x146 ∧ ((((0 + 1) + q4) + (1 + n21 / 16)) + q32) ≤ cB ∧ wpX10_below mu35 v2 (3 : Int32) (fun r147 mu148 => ∃ x149, mB mu148 a1 = some x149 ∧ ∀ mu150, mu150 = sB mu148 a1 (x149.1, x149.2.1, x149.2.2.1, r147, x149.2.2.2.2.1, x149.2.2.2.2.2.1, x149.2.2.2.2.2.2.1, x149.2.2.2.2.2.2.2.1, x149.2.2.2.2.2.2.2.2.1, x149.2.2.2.2.2.2.2.2.2) → ∃ n151, (1 : Int32) = nI n151 ∧ n151 ≤ 1000 ∧ ((((0 + 1) + q4) + (1 + n21 / 16)) + q32) + (1 + n151 / 16) ≤ cB ∧ ∀ a151, frM mu150 a151 → ∀ mu152, mu152 = sI mu150 a151 (n151, fun _ => 0) → ∃ x153, mB mu152 a1 = some x153 ∧ ∃ n154 f154 k154, mI mu152 a151 = some (n154, f154) ∧ (0 : Int32) = nI k154 ∧ k154 < n154 ∧ n154 ≤ 1000 ∧ ∀ mu155, mu155 = sI mu152 a151 (n154, upd f154 k154 x153.2.2.2.1) → ∃ q156, (((((0 + 1) + q4) + (1 + n21 / 16)) + q32) + (1 + n151 / 16)) + q156 ≤ cB ∧ wpL_writeAll_K q156 S32 mu155 v1 2 a151 (fun S156 mu156 => wpL_randomBook_b106 cB Post  S156 mu156 ((((((0 + 1) + q4) + (1 + n21 / 16)) + q32) + (1 + n151 / 16)) + q156) v1 v2 a1))))))))) := H
  refine k_widen (k := 0) (n := 16 * 0) (Nat.le_refl _) (Nat.le_refl _) ?_
  obtain ⟨hc_, H⟩ := H
  refine l_newB C hR (u := 0) (pc := 0) tW_2_54 tW_2_55 tW_1_9 hc_ (Nat.mul_le_mul_left 16 hc_) dL_randomBook_0 (fun a1 w1 hf_ hR => ?_)
  have H := H a1 hf_
  obtain ⟨mu2, hm2⟩ : ∃ m_, m_ = sB mu a1 (0, 0, 0, 0, none, none, none, none, none, 0) := ⟨_, rfl⟩
  rw [← hm2] at hR
  have H := H mu2 hm2
  refine k_dup C (pc := 3) dL_randomBook_3 rfl ?_
  obtain ⟨q4, hc_, H⟩ := H
  refine k_callAv C (pc := 4) (l_runIN C hF (As := []) (rest := [.ref a1]) (conX7_init l D cA q4 mu2 a1 _  H hR) ⟨k_cwN C tW_2_58 (k_n14 C) tW_1_9 okX7_init rfl rfl ⟨Nat.le_of_ble_eq_true rfl, Nat.le_of_ble_eq_true rfl⟩, rfl, C.w tW_2_57⟩ rfl rfl (Nat.le_of_ble_eq_true rfl) dL_randomBook_4 ⟨hc_, by show 16 * (0 + 1) + 16 * q4 ≤ 16 * cB; omega⟩) (fun w1 hw_ => ?_)
  obtain ⟨mu5, hR, H⟩ := hw_
  refine k_sl ?_
  refine k_astore_n C (pc := 7) dL_randomBook_7 rfl (Nat.lt_of_lt_of_le (Nat.lt_succ_self _) (Nat.le_of_ble_eq_true rfl)) (lv' := [(3, .ref a1), (0, .ref (h 0)), (1, .ref v1), (2, .ref v2)]) rfl ?_
  refine k_aload_n C 0 (pc := 8) dL_randomBook_8 rfl rfl ?_
  refine k_bipush C (pc := 9) (v := (10 : Int32)) dL_randomBook_9 (by decide) ?_
  refine k_aload_n C 3 (pc := 11) dL_randomBook_11 rfl rfl ?_
  refine k_bipush C (pc := 12) (v := (8 : Int32)) dL_randomBook_12 (by decide) ?_
  obtain ⟨x6, hx6, H⟩ := H
  obtain ⟨i6, hi6⟩ := List.getElem?_of_mem (hR.R hx6)
  obtain ⟨hc_, H⟩ := H
  refine k_callAi C (pc := 14) (l_runV C hF (As := [.int (8 : Int32)]) (rest := [.int (10 : Int32), .ref a1]) (ci := 10) (q0 := i6) (conX10_below l D cA mu5 v2 (8 : Int32) _  H hR) ⟨k_cwB C tW_2_170 tW_2_167 tW_1_8 okX10_below rfl rfl ⟨Nat.le_of_ble_eq_true rfl, Nat.le_of_ble_eq_true rfl⟩, C.w tW_2_168, C.w tW_2_169⟩ hi6 rfl rfl rfl rfl (Nat.le_of_ble_eq_true rfl) dL_randomBook_14 ⟨hc_, (by show 16 * ((0 + 1) + q4) + 0 ≤ 16 * cB; omega)⟩) (fun r7 w1 hw_ => ?_)
  obtain ⟨mu8, hR, H⟩ := hw_
  refine k_iadd C (pc := 17) dL_randomBook_17 ?_
  obtain ⟨x9, hx9, H⟩ := H
  refine l_putB C hR (pc := 18) hx9 0 (Nat.lt_of_lt_of_le (Nat.lt_succ_self _) (Nat.le_of_ble_eq_true rfl)) (ref := "WidowWatchLaw$Book") tW_2_63 rfl rfl  (ty := .int) rfl rfl rfl (x1 := (((10 : Int32) + r7, x9.2.1, x9.2.2.1, x9.2.2.2.1, x9.2.2.2.2.1, x9.2.2.2.2.2.1, x9.2.2.2.2.2.2.1, x9.2.2.2.2.2.2.2.1, x9.2.2.2.2.2.2.2.2.1, x9.2.2.2.2.2.2.2.2.2))) rfl dL_randomBook_18 (fun w1 hR => ?_)
  obtain ⟨mu10, hm10⟩ : ∃ m_, m_ = sB mu8 a1 ((10 : Int32) + r7, x9.2.1, x9.2.2.1, x9.2.2.2.1, x9.2.2.2.2.1, x9.2.2.2.2.2.1, x9.2.2.2.2.2.2.1, x9.2.2.2.2.2.2.2.1, x9.2.2.2.2.2.2.2.2.1, x9.2.2.2.2.2.2.2.2.2) := ⟨_, rfl⟩
  rw [← hm10] at hR
  have H := H mu10 hm10
  refine k_aload_n C 0 (pc := 21) dL_randomBook_21 rfl rfl ?_
  refine k_iconst C (pc := 22) (v := (2 : Int32)) dL_randomBook_22 rfl ?_
  refine k_aload_n C 3 (pc := 23) dL_randomBook_23 rfl rfl ?_
  refine k_iconst C (pc := 24) (v := (3 : Int32)) dL_randomBook_24 rfl ?_
  obtain ⟨x11, hx11, H⟩ := H
  obtain ⟨i11, hi11⟩ := List.getElem?_of_mem (hR.R hx11)
  obtain ⟨hc_, H⟩ := H
  refine k_callAi C (pc := 25) (l_runV C hF (As := [.int (3 : Int32)]) (rest := [.int (2 : Int32), .ref a1]) (ci := 10) (q0 := i11) (conX10_below l D cA mu10 v2 (3 : Int32) _  H hR) ⟨k_cwB C tW_2_170 tW_2_167 tW_1_8 okX10_below rfl rfl ⟨Nat.le_of_ble_eq_true rfl, Nat.le_of_ble_eq_true rfl⟩, C.w tW_2_168, C.w tW_2_169⟩ hi11 rfl rfl rfl rfl (Nat.le_of_ble_eq_true rfl) dL_randomBook_25 ⟨hc_, (by show 16 * ((0 + 1) + q4) + 0 ≤ 16 * cB; omega)⟩) (fun r12 w1 hw_ => ?_)
  obtain ⟨mu13, hR, H⟩ := hw_
  refine k_iadd C (pc := 28) dL_randomBook_28 ?_
  obtain ⟨x14, hx14, H⟩ := H
  refine l_putB C hR (pc := 29) hx14 1 (Nat.lt_of_lt_of_le (Nat.lt_succ_self _) (Nat.le_of_ble_eq_true rfl)) (ref := "WidowWatchLaw$Book") tW_2_65 rfl rfl  (ty := .int) rfl rfl rfl (x1 := ((x14.1, (2 : Int32) + r12, x14.2.2.1, x14.2.2.2.1, x14.2.2.2.2.1, x14.2.2.2.2.2.1, x14.2.2.2.2.2.2.1, x14.2.2.2.2.2.2.2.1, x14.2.2.2.2.2.2.2.2.1, x14.2.2.2.2.2.2.2.2.2))) rfl dL_randomBook_29 (fun w1 hR => ?_)
  obtain ⟨mu15, hm15⟩ : ∃ m_, m_ = sB mu13 a1 (x14.1, (2 : Int32) + r12, x14.2.2.1, x14.2.2.2.1, x14.2.2.2.2.1, x14.2.2.2.2.2.1, x14.2.2.2.2.2.2.1, x14.2.2.2.2.2.2.2.1, x14.2.2.2.2.2.2.2.2.1, x14.2.2.2.2.2.2.2.2.2) := ⟨_, rfl⟩
  rw [← hm15] at hR
  have H := H mu15 hm15
  refine k_aload_n C 0 (pc := 32) dL_randomBook_32 rfl rfl ?_
  refine k_aload_n C 3 (pc := 33) dL_randomBook_33 rfl rfl ?_
  refine k_iconst C (pc := 34) (v := (5 : Int32)) dL_randomBook_34 rfl ?_
  obtain ⟨x16, hx16, H⟩ := H
  obtain ⟨i16, hi16⟩ := List.getElem?_of_mem (hR.R hx16)
  obtain ⟨hc_, H⟩ := H
  refine k_callAi C (pc := 35) (l_runV C hF (As := [.int (5 : Int32)]) (rest := [.ref a1]) (ci := 10) (q0 := i16) (conX10_below l D cA mu15 v2 (5 : Int32) _  H hR) ⟨k_cwB C tW_2_170 tW_2_167 tW_1_8 okX10_below rfl rfl ⟨Nat.le_of_ble_eq_true rfl, Nat.le_of_ble_eq_true rfl⟩, C.w tW_2_168, C.w tW_2_169⟩ hi16 rfl rfl rfl rfl (Nat.le_of_ble_eq_true rfl) dL_randomBook_35 ⟨hc_, (by show 16 * ((0 + 1) + q4) + 0 ≤ 16 * cB; omega)⟩) (fun r17 w1 hw_ => ?_)
  obtain ⟨mu18, hR, H⟩ := hw_
  obtain ⟨x19, hx19, H⟩ := H
  refine l_putB C hR (pc := 38) hx19 2 (Nat.lt_of_lt_of_le (Nat.lt_succ_self _) (Nat.le_of_ble_eq_true rfl)) (ref := "WidowWatchLaw$Book") tW_2_67 rfl rfl  (ty := .int) rfl rfl rfl (x1 := ((x19.1, x19.2.1, r17, x19.2.2.2.1, x19.2.2.2.2.1, x19.2.2.2.2.2.1, x19.2.2.2.2.2.2.1, x19.2.2.2.2.2.2.2.1, x19.2.2.2.2.2.2.2.2.1, x19.2.2.2.2.2.2.2.2.2))) rfl dL_randomBook_38 (fun w1 hR => ?_)
  obtain ⟨mu20, hm20⟩ : ∃ m_, m_ = sB mu18 a1 (x19.1, x19.2.1, r17, x19.2.2.2.1, x19.2.2.2.2.1, x19.2.2.2.2.2.1, x19.2.2.2.2.2.2.1, x19.2.2.2.2.2.2.2.1, x19.2.2.2.2.2.2.2.2.1, x19.2.2.2.2.2.2.2.2.2) := ⟨_, rfl⟩
  rw [← hm20] at hR
  have H := H mu20 hm20
  refine k_aload_n C 1 (pc := 41) dL_randomBook_41 rfl rfl ?_
  refine k_aload_n C 2 (pc := 42) dL_randomBook_42 rfl rfl ?_
  refine k_ldcS C (pc := 43) (tx := "book") (q := cA (100 + 0)) (C.2.1.2.2.1 ("WidowWatchLaw", 128, "book", 0) (List.mem_of_getElem? (i := 6) rfl)) dL_randomBook_43 ?_
  refine k_iconst C (pc := 45) (v := (3 : Int32)) dL_randomBook_45 rfl ?_
  obtain ⟨n21, hk_, hn_, hc_, H⟩ := H
  refine k_eq (pc := 46) (st' := [.int (nI n21), .ref (cA (100 + 0)), .ref v1, .ref (h 0)]) rfl rfl (by rw [hk_]) ?_
  refine l_newI C hR (u := (0 + 1) + q4) (pc := 46) hn_ hc_ (Nat.mul_le_mul_left 16 hc_) dL_randomBook_46 (fun a21 w1 hf_ hR => ?_)
  have H := H a21 hf_
  obtain ⟨mu22, hm22⟩ : ∃ m_, m_ = sI mu20 a21 (n21, fun _ => 0) := ⟨_, rfl⟩
  rw [← hm22] at hR
  have H := H mu22 hm22
  refine k_dup C (pc := 48) dL_randomBook_48 rfl ?_
  refine k_iconst C (pc := 49) (v := (0 : Int32)) dL_randomBook_49 rfl ?_
  refine k_aload_n C 0 (pc := 50) dL_randomBook_50 rfl rfl ?_
  obtain ⟨x23, hx23, H⟩ := H
  refine l_getB C hR (pc := 51) hx23 0 (Nat.lt_of_lt_of_le (Nat.lt_succ_self _) (Nat.le_of_ble_eq_true rfl)) (ref := "WidowWatchLaw$Book") tW_2_63 rfl (v := .int x23.1) rfl dL_randomBook_51 ?_
  obtain ⟨n24, f24, k24, hx_, hk_, hl_, hn_, H⟩ := H
  refine k_eq (pc := 54) (st' := [.int x23.1, .int (nI k24), .ref a21, .ref a21, .ref (cA (100 + 0)), .ref v1, .ref (h 0)]) rfl rfl (by rw [hk_]) ?_
  refine l_iast C hR (pc := 54) hx_ hl_ hn_ dL_randomBook_54 (fun w1 hR => ?_)
  obtain ⟨mu25, hm25⟩ : ∃ m_, m_ = sI mu22 a21 (n24, upd f24 k24 x23.1) := ⟨_, rfl⟩
  rw [← hm25] at hR
  have H := H mu25 hm25
  refine k_dup C (pc := 55) dL_randomBook_55 rfl ?_
  refine k_iconst C (pc := 56) (v := (1 : Int32)) dL_randomBook_56 rfl ?_
  refine k_aload_n C 0 (pc := 57) dL_randomBook_57 rfl rfl ?_
  obtain ⟨x26, hx26, H⟩ := H
  refine l_getB C hR (pc := 58) hx26 1 (Nat.lt_of_lt_of_le (Nat.lt_succ_self _) (Nat.le_of_ble_eq_true rfl)) (ref := "WidowWatchLaw$Book") tW_2_65 rfl (v := .int x26.2.1) rfl dL_randomBook_58 ?_
  obtain ⟨n27, f27, k27, hx_, hk_, hl_, hn_, H⟩ := H
  refine k_eq (pc := 61) (st' := [.int x26.2.1, .int (nI k27), .ref a21, .ref a21, .ref (cA (100 + 0)), .ref v1, .ref (h 0)]) rfl rfl (by rw [hk_]) ?_
  refine l_iast C hR (pc := 61) hx_ hl_ hn_ dL_randomBook_61 (fun w1 hR => ?_)
  obtain ⟨mu28, hm28⟩ : ∃ m_, m_ = sI mu25 a21 (n27, upd f27 k27 x26.2.1) := ⟨_, rfl⟩
  rw [← hm28] at hR
  have H := H mu28 hm28
  refine k_dup C (pc := 62) dL_randomBook_62 rfl ?_
  refine k_iconst C (pc := 63) (v := (2 : Int32)) dL_randomBook_63 rfl ?_
  refine k_aload_n C 0 (pc := 64) dL_randomBook_64 rfl rfl ?_
  obtain ⟨x29, hx29, H⟩ := H
  refine l_getB C hR (pc := 65) hx29 2 (Nat.lt_of_lt_of_le (Nat.lt_succ_self _) (Nat.le_of_ble_eq_true rfl)) (ref := "WidowWatchLaw$Book") tW_2_67 rfl (v := .int x29.2.2.1) rfl dL_randomBook_65 ?_
  obtain ⟨n30, f30, k30, hx_, hk_, hl_, hn_, H⟩ := H
  refine k_eq (pc := 68) (st' := [.int x29.2.2.1, .int (nI k30), .ref a21, .ref a21, .ref (cA (100 + 0)), .ref v1, .ref (h 0)]) rfl rfl (by rw [hk_]) ?_
  refine l_iast C hR (pc := 68) hx_ hl_ hn_ dL_randomBook_68 (fun w1 hR => ?_)
  obtain ⟨mu31, hm31⟩ : ∃ m_, m_ = sI mu28 a21 (n30, upd f30 k30 x29.2.2.1) := ⟨_, rfl⟩
  rw [← hm31] at hR
  have H := H mu31 hm31
  obtain ⟨q32, hc_, H⟩ := H
  refine k_callAv C (pc := 69) (kw_runS C hE hF (As := [.ref (h 0), .ref v1, .ref (cA (100 + 0)), .ref a21]) (rest := []) (conL_writeAll_K l D cA h ab ac ar hst q32 S mu31 v1 0 a21 _ (show 0 < 10 from by decide) H hI hR) ⟨k_cwB C tW_5_31 tW_5_29 tW_1_0 okL_writeAll rfl rfl ⟨Nat.le_of_ble_eq_true rfl, Nat.le_of_ble_eq_true rfl⟩, C.w tW_5_30⟩ rfl rfl (Nat.le_of_ble_eq_true rfl) dL_randomBook_69 (kw_rm hc_ (Nat.le_refl _) hRm)) (fun w1 hw_ => ?_)
  obtain ⟨w_, S32, mu32, hI, hR, H⟩ := hw_
  refine k_sl ?_
  refine k_aload_n C 3 (pc := 72) dL_randomBook_72 rfl rfl ?_
  refine k_iconst C (pc := 73) (v := (2 : Int32)) dL_randomBook_73 rfl ?_
  obtain ⟨x33, hx33, H⟩ := H
  obtain ⟨i33, hi33⟩ := List.getElem?_of_mem (hR.R hx33)
  obtain ⟨hc_, H⟩ := H
  refine k_callAi C (pc := 74) (l_runV C hF (As := [.int (2 : Int32)]) (rest := []) (ci := 10) (q0 := i33) (conX10_below l D cA mu32 v2 (2 : Int32) _  H hR) ⟨k_cwB C tW_2_170 tW_2_167 tW_1_8 okX10_below rfl rfl ⟨Nat.le_of_ble_eq_true rfl, Nat.le_of_ble_eq_true rfl⟩, C.w tW_2_168, C.w tW_2_169⟩ hi33 rfl rfl rfl rfl (Nat.le_of_ble_eq_true rfl) dL_randomBook_74 ⟨hc_, (by show 16 * ((((0 + 1) + q4) + (1 + n21 / 16)) + q32) + 0 ≤ 16 * cB; omega)⟩) (fun r34 w1 hw_ => ?_)
  obtain ⟨mu35, hR, H⟩ := hw_
  refine k_if_ne C (pc := 77) (tgt := 106) dL_randomBook_77 (by decide) (fun c_77 => ?_) (fun c_77 => ?_)
  · have H := H.1 c_77
    refine k_lv (pc := 106) [1, 2, 3, 0] (lv' := [(0, .ref (h 0)), (1, .ref v1), (2, .ref v2), (3, .ref a1)]) rfl ?_
    exact B106  _ _ S32 mu35 ((((0 + 1) + q4) + (1 + n21 / 16)) + q32) v1 v2 a1 hI hR H
  · have H := H.2 c_77
    refine k_aload_n C 0 (pc := 80) dL_randomBook_80 rfl rfl ?_
    refine k_aload_n C 3 (pc := 81) dL_randomBook_81 rfl rfl ?_
    refine k_iconst C (pc := 82) (v := (3 : Int32)) dL_randomBook_82 rfl ?_
    obtain ⟨x146, hx146, H⟩ := H
    obtain ⟨i146, hi146⟩ := List.getElem?_of_mem (hR.R hx146)
    obtain ⟨hc_, H⟩ := H
    refine k_callAi C (pc := 83) (l_runV C hF (As := [.int (3 : Int32)]) (rest := [.ref a1]) (ci := 10) (q0 := i146) (conX10_below l D cA mu35 v2 (3 : Int32) _  H hR) ⟨k_cwB C tW_2_170 tW_2_167 tW_1_8 okX10_below rfl rfl ⟨Nat.le_of_ble_eq_true rfl, Nat.le_of_ble_eq_true rfl⟩, C.w tW_2_168, C.w tW_2_169⟩ hi146 rfl rfl rfl rfl (Nat.le_of_ble_eq_true rfl) dL_randomBook_83 ⟨hc_, (by show 16 * ((((0 + 1) + q4) + (1 + n21 / 16)) + q32) + 0 ≤ 16 * cB; omega)⟩) (fun r147 w1 hw_ => ?_)
    obtain ⟨mu148, hR, H⟩ := hw_
    obtain ⟨x149, hx149, H⟩ := H
    refine l_putB C hR (pc := 86) hx149 3 (Nat.lt_of_lt_of_le (Nat.lt_succ_self _) (Nat.le_of_ble_eq_true rfl)) (ref := "WidowWatchLaw$Book") tW_2_69 rfl rfl  (ty := .int) rfl rfl rfl (x1 := ((x149.1, x149.2.1, x149.2.2.1, r147, x149.2.2.2.2.1, x149.2.2.2.2.2.1, x149.2.2.2.2.2.2.1, x149.2.2.2.2.2.2.2.1, x149.2.2.2.2.2.2.2.2.1, x149.2.2.2.2.2.2.2.2.2))) rfl dL_randomBook_86 (fun w1 hR => ?_)
    obtain ⟨mu150, hm150⟩ : ∃ m_, m_ = sB mu148 a1 (x149.1, x149.2.1, x149.2.2.1, r147, x149.2.2.2.2.1, x149.2.2.2.2.2.1, x149.2.2.2.2.2.2.1, x149.2.2.2.2.2.2.2.1, x149.2.2.2.2.2.2.2.2.1, x149.2.2.2.2.2.2.2.2.2) := ⟨_, rfl⟩
    rw [← hm150] at hR
    have H := H mu150 hm150
    refine k_aload_n C 1 (pc := 89) dL_randomBook_89 rfl rfl ?_
    refine k_aload_n C 2 (pc := 90) dL_randomBook_90 rfl rfl ?_
    refine k_ldcS C (pc := 91) (tx := "limit") (q := cA (100 + 2)) (C.2.1.2.2.1 ("WidowWatchLaw", 137, "limit", 2) (List.mem_of_getElem? (i := 8) rfl)) dL_randomBook_91 ?_
    refine k_iconst C (pc := 93) (v := (1 : Int32)) dL_randomBook_93 rfl ?_
    obtain ⟨n151, hk_, hn_, hc_, H⟩ := H
    refine k_eq (pc := 94) (st' := [.int (nI n151), .ref (cA (100 + 2)), .ref v1, .ref (h 0)]) rfl rfl (by rw [hk_]) ?_
    refine l_newI C hR (u := (((0 + 1) + q4) + (1 + n21 / 16)) + q32) (pc := 94) hn_ hc_ (Nat.mul_le_mul_left 16 hc_) dL_randomBook_94 (fun a151 w1 hf_ hR => ?_)
    have H := H a151 hf_
    obtain ⟨mu152, hm152⟩ : ∃ m_, m_ = sI mu150 a151 (n151, fun _ => 0) := ⟨_, rfl⟩
    rw [← hm152] at hR
    have H := H mu152 hm152
    refine k_dup C (pc := 96) dL_randomBook_96 rfl ?_
    refine k_iconst C (pc := 97) (v := (0 : Int32)) dL_randomBook_97 rfl ?_
    refine k_aload_n C 0 (pc := 98) dL_randomBook_98 rfl rfl ?_
    obtain ⟨x153, hx153, H⟩ := H
    refine l_getB C hR (pc := 99) hx153 3 (Nat.lt_of_lt_of_le (Nat.lt_succ_self _) (Nat.le_of_ble_eq_true rfl)) (ref := "WidowWatchLaw$Book") tW_2_69 rfl (v := .int x153.2.2.2.1) rfl dL_randomBook_99 ?_
    obtain ⟨n154, f154, k154, hx_, hk_, hl_, hn_, H⟩ := H
    refine k_eq (pc := 102) (st' := [.int x153.2.2.2.1, .int (nI k154), .ref a151, .ref a151, .ref (cA (100 + 2)), .ref v1, .ref (h 0)]) rfl rfl (by rw [hk_]) ?_
    refine l_iast C hR (pc := 102) hx_ hl_ hn_ dL_randomBook_102 (fun w1 hR => ?_)
    obtain ⟨mu155, hm155⟩ : ∃ m_, m_ = sI mu152 a151 (n154, upd f154 k154 x153.2.2.2.1) := ⟨_, rfl⟩
    rw [← hm155] at hR
    have H := H mu155 hm155
    obtain ⟨q156, hc_, H⟩ := H
    refine k_callAv C (pc := 103) (kw_runS C hE hF (As := [.ref (h 0), .ref v1, .ref (cA (100 + 2)), .ref a151]) (rest := []) (conL_writeAll_K l D cA h ab ac ar hst q156 S32 mu155 v1 2 a151 _ (show 2 < 10 from by decide) H hI hR) ⟨k_cwB C tW_5_31 tW_5_29 tW_1_0 okL_writeAll rfl rfl ⟨Nat.le_of_ble_eq_true rfl, Nat.le_of_ble_eq_true rfl⟩, C.w tW_5_30⟩ rfl rfl (Nat.le_of_ble_eq_true rfl) dL_randomBook_103 (kw_rm hc_ (Nat.le_refl _) hRm)) (fun w1 hw_ => ?_)
    obtain ⟨w_, S156, mu156, hI, hR, H⟩ := hw_
    refine k_sl ?_
    refine k_lv (pc := 106) [1, 2, 3, 0] (lv' := [(0, .ref (h 0)), (1, .ref v1), (2, .ref v2), (3, .ref a1)]) rfl ?_
    exact B106  _ _ S156 mu156 ((((((0 + 1) + q4) + (1 + n21 / 16)) + q32) + (1 + n151 / 16)) + q156) v1 v2 a1 hI hR H
