/-! THE LAW'S CASES -/
abbrev lwK (p : Program) (l : Launch) (e : Env) (s : State) (m : MethodId) (below : List Frame) (meth : Method) (c : Code) (D : va_G) (b : Nat) (Q : State → Prop) (cells slots : Nat) (ws : va_W) (pc : Nat) (lv : List (Nat × Value)) (st : List Value) : Prop := Kf p l e room_1 s m #[Value.ref b] below meth c D (fun q => s.heap.size ≤ q) 9 cells slots Q ws pc lv st
theorem cc_get2 {α : Type} (w u : List α) (x : α) : ((w ++ [x]) ++ u)[w.length]? = some x := by simp
theorem lg_self (x : Int64) : lg_cmp x x = 0 := by
  unfold lg_cmp
  rw [if_neg (by simp), if_pos rfl]
theorem lw_hin {L i : Nat} (hi : 6 * i + 6 ≤ L) (hL : L ≤ 3072) (k : Nat) (hk : k < 6) : vp_in (nI (6 * i) + nI k) L := by
  rw [nI_add]
  exact vp_in_nI (by omega) (by omega)
theorem lw_hin0 {L i : Nat} (hi : 6 * i + 6 ≤ L) (hL : L ≤ 3072) : vp_in (nI (6 * i)) L := vp_in_nI (by omega) (by omega)
theorem lw_bool (x : Int32) : ∃ b : Bool, (x = 0 → bI b = 0) ∧ (¬ x = 0 → bI b = 1) := by
  by_cases h : x = 0
  · exact ⟨false, fun _ => rfl, fun q => absurd h q⟩
  · exact ⟨true, fun q => absurd q h, fun _ => rfl⟩
theorem dcmp_s {x : UInt64} {op : CmpOp} (h : vf_n64 x) : Op.cmpValue (FP.dcmp x x) op = 0 := by
  rw [dcmp_self h]
  rfl

theorem d_law_140 : decode code 140 = .ok (.aload_n 1, 1) := by decide +kernel
theorem d_law_141 : decode code 141 = .ok (.aload_n 0, 1) := by decide +kernel
theorem d_law_142 : decode code 142 = .ok (.iload 4, 2) := by decide +kernel
theorem d_law_144 : decode code 144 = .ok (.iconst 1, 1) := by decide +kernel
theorem d_law_145 : decode code 145 = .ok (.iadd, 1) := by decide +kernel
theorem d_law_146 : decode code 146 = .ok (.iaload, 1) := by decide +kernel
theorem d_law_147 : decode code 147 = .ok (.aload_n 0, 1) := by decide +kernel
theorem d_law_148 : decode code 148 = .ok (.iload 4, 2) := by decide +kernel
theorem d_law_150 : decode code 150 = .ok (.iconst 2, 1) := by decide +kernel
theorem d_law_151 : decode code 151 = .ok (.iadd, 1) := by decide +kernel
theorem d_law_152 : decode code 152 = .ok (.iaload, 1) := by decide +kernel
theorem d_law_153 : decode code 153 = .ok (.aload_n 0, 1) := by decide +kernel
theorem d_law_154 : decode code 154 = .ok (.iload 4, 2) := by decide +kernel
theorem d_law_156 : decode code 156 = .ok (.iconst 3, 1) := by decide +kernel
theorem d_law_157 : decode code 157 = .ok (.iadd, 1) := by decide +kernel
theorem d_law_158 : decode code 158 = .ok (.iaload, 1) := by decide +kernel
theorem d_law_159 : decode code 159 = .ok (.aload_n 0, 1) := by decide +kernel
theorem d_law_160 : decode code 160 = .ok (.iload 4, 2) := by decide +kernel
theorem d_law_162 : decode code 162 = .ok (.iconst 4, 1) := by decide +kernel
theorem d_law_163 : decode code 163 = .ok (.iadd, 1) := by decide +kernel
theorem d_law_164 : decode code 164 = .ok (.iaload, 1) := by decide +kernel
theorem d_law_165 : decode code 165 = .ok (.aload_n 0, 1) := by decide +kernel
theorem d_law_166 : decode code 166 = .ok (.iload 4, 2) := by decide +kernel
theorem d_law_168 : decode code 168 = .ok (.iconst 5, 1) := by decide +kernel
theorem d_law_169 : decode code 169 = .ok (.iadd, 1) := by decide +kernel
theorem d_law_170 : decode code 170 = .ok (.iaload, 1) := by decide +kernel
theorem d_law_171 : decode code 171 = .ok (.invokevirtual 72, 3) := by decide +kernel
theorem d_law_174 : decode code 174 = .ok (.aload_n 2, 1) := by decide +kernel
theorem d_law_175 : decode code 175 = .ok (.aload_n 0, 1) := by decide +kernel
theorem d_law_176 : decode code 176 = .ok (.iload 4, 2) := by decide +kernel
theorem d_law_178 : decode code 178 = .ok (.iconst 1, 1) := by decide +kernel
theorem d_law_179 : decode code 179 = .ok (.iadd, 1) := by decide +kernel
theorem d_law_180 : decode code 180 = .ok (.iaload, 1) := by decide +kernel
theorem d_law_181 : decode code 181 = .ok (.aload_n 0, 1) := by decide +kernel
theorem d_law_182 : decode code 182 = .ok (.iload 4, 2) := by decide +kernel
theorem d_law_184 : decode code 184 = .ok (.iconst 2, 1) := by decide +kernel
theorem d_law_185 : decode code 185 = .ok (.iadd, 1) := by decide +kernel
theorem d_law_186 : decode code 186 = .ok (.iaload, 1) := by decide +kernel
theorem d_law_187 : decode code 187 = .ok (.aload_n 0, 1) := by decide +kernel
theorem d_law_188 : decode code 188 = .ok (.iload 4, 2) := by decide +kernel
theorem d_law_190 : decode code 190 = .ok (.iconst 3, 1) := by decide +kernel
theorem d_law_191 : decode code 191 = .ok (.iadd, 1) := by decide +kernel
theorem d_law_192 : decode code 192 = .ok (.iaload, 1) := by decide +kernel
theorem d_law_193 : decode code 193 = .ok (.aload_n 0, 1) := by decide +kernel
theorem d_law_194 : decode code 194 = .ok (.iload 4, 2) := by decide +kernel
theorem d_law_196 : decode code 196 = .ok (.iconst 4, 1) := by decide +kernel
theorem d_law_197 : decode code 197 = .ok (.iadd, 1) := by decide +kernel
theorem d_law_198 : decode code 198 = .ok (.iaload, 1) := by decide +kernel
theorem d_law_199 : decode code 199 = .ok (.aload_n 0, 1) := by decide +kernel
theorem d_law_200 : decode code 200 = .ok (.iload 4, 2) := by decide +kernel
theorem d_law_202 : decode code 202 = .ok (.iconst 5, 1) := by decide +kernel
theorem d_law_203 : decode code 203 = .ok (.iadd, 1) := by decide +kernel
theorem d_law_204 : decode code 204 = .ok (.iaload, 1) := by decide +kernel
theorem d_law_205 : decode code 205 = .ok (.invokevirtual 76, 3) := by decide +kernel
theorem d_law_208 : decode code 208 = .ok (.if_icmp .eq 1204, 3) := by decide +kernel
set_option maxHeartbeats 1000000 in
theorem law_c0 {p : Program} {l : Launch} {e : Env} {s : State} {m : MethodId} {below : List Frame} {meth : Method} {c : Code} {D : va_G} {cA : Nat → ClassId} {b L : Nat} {xs : Nat → Int32} (C : Cx p s m meth c code 9 #[Value.ref b] lw_tbl "WidowWatchLaw" D cA (fun q => s.heap.size ≤ q)) (hE : EvY D cA (fun q => s.heap.size ≤ q) s s.heap) (hst : l.stackTraces = false) (hX : va_X b L xs s s.heap) (hbl : b < s.heap.size) (o : Nat) (h ab ac ar hm rH rL rC rP r1 r2 r3 : Nat → Nat) {Q : State → Prop} (i : Nat) (hi : 6 * i + 6 ≤ L) (hL : L ≤ 3072) {f : Nat → Int64} {S : ivS} {th : Int32} {w wM : va_W} (hI : ivI cA h ab ac ar S false w) (hM : imI cA hm rH rL rC rP r1 r2 r3 S th wM) (nx : ∀ (f : Nat → Int64) (S : ivS) (th : Int32) (w wM : va_W), ivI cA h ab ac ar S false w → imI cA hm rH rL rC rP r1 r2 r3 S th wM → lwK p l e s m below meth c D b Q (2000 + 8 * i + 8) (100000 + 64 * i + 64) ((w ++ [(o, .inl (cA 5, 1, .inr (.inl f)))]) ++ wM) 1412 [(0, .ref b), (1, .ref (h 0)), (2, .ref (hm 0)), (3, .ref o), (4, .int (nI (6 * i)))] []) : lwK p l e s m below meth c D b Q (2000 + 8 * i) (100000 + 64 * i) ((w ++ [(o, .inl (cA 5, 1, .inr (.inl f)))]) ++ wM) 140 [(0, .ref b), (1, .ref (h 0)), (2, .ref (hm 0)), (3, .ref o), (4, .int (nI (6 * i)))] [] := by
  have hbA : ¬ (fun q => s.heap.size ≤ q) b := Nat.not_le.mpr hbl
  have hcl : ∀ j, j ≤ 8 → 2000 + 8 * i + j ≤ room_1.cells := fun j hj => by
    show _ ≤ 601024
    omega
  have hsl : ∀ j, j ≤ 64 → 100000 + 64 * i + j ≤ room_1.slots := fun j hj => by
    show _ ≤ 7293034
    omega
  obtain ⟨fs, t, hw⟩ := hI.hd
  obtain ⟨fsM, tM, hwM⟩ := hM.hd
  refine k_aload_n C 1 (pc := 140) d_law_140 rfl rfl ?_
  refine k_aload_n C 0 (pc := 141) d_law_141 rfl rfl ?_
  refine k_iload C 4 (pc := 142) d_law_142 rfl ?_
  refine k_iconst C (pc := 144) (v := (1 : Int32)) d_law_144 rfl ?_
  refine k_iadd C (pc := 145) d_law_145 ?_
  refine k_sld C (pc := 146) hX hbl hbA (lw_hin hi hL 1 (by decide)) d_law_146 ?_
  refine k_aload_n C 0 (pc := 147) d_law_147 rfl rfl ?_
  refine k_iload C 4 (pc := 148) d_law_148 rfl ?_
  refine k_iconst C (pc := 150) (v := (2 : Int32)) d_law_150 rfl ?_
  refine k_iadd C (pc := 151) d_law_151 ?_
  refine k_sld C (pc := 152) hX hbl hbA (lw_hin hi hL 2 (by decide)) d_law_152 ?_
  refine k_aload_n C 0 (pc := 153) d_law_153 rfl rfl ?_
  refine k_iload C 4 (pc := 154) d_law_154 rfl ?_
  refine k_iconst C (pc := 156) (v := (3 : Int32)) d_law_156 rfl ?_
  refine k_iadd C (pc := 157) d_law_157 ?_
  refine k_sld C (pc := 158) hX hbl hbA (lw_hin hi hL 3 (by decide)) d_law_158 ?_
  refine k_aload_n C 0 (pc := 159) d_law_159 rfl rfl ?_
  refine k_iload C 4 (pc := 160) d_law_160 rfl ?_
  refine k_iconst C (pc := 162) (v := (4 : Int32)) d_law_162 rfl ?_
  refine k_iadd C (pc := 163) d_law_163 ?_
  refine k_sld C (pc := 164) hX hbl hbA (lw_hin hi hL 4 (by decide)) d_law_164 ?_
  refine k_aload_n C 0 (pc := 165) d_law_165 rfl rfl ?_
  refine k_iload C 4 (pc := 166) d_law_166 rfl ?_
  refine k_iconst C (pc := 168) (v := (5 : Int32)) d_law_168 rfl ?_
  refine k_iadd C (pc := 169) d_law_169 ?_
  refine k_sld C (pc := 170) hX hbl hbA (lw_hin hi hL 5 (by decide)) d_law_170 ?_
  refine k_eq (pc := 171) (ws' := w ++ ([(o, .inl (cA 5, 1, .inr (.inl f)))] ++ wM)) (List.append_assoc _ _ _) rfl rfl ?_
  refine k_onL C (pc := 171) (k_runV C (As := [.int (xs (nI (6 * i) + (1 : Int32)).toNatClampNeg), .int (xs (nI (6 * i) + (2 : Int32)).toNatClampNeg), .int (xs (nI (6 * i) + (3 : Int32)).toNatClampNeg), .int (xs (nI (6 * i) + (4 : Int32)).toNatClampNeg), .int (xs (nI (6 * i) + (5 : Int32)).toNatClampNeg)]) (rest := []) (ci := 6) (q0 := 0) (xi_append l D cA h ab ac ar (xs (nI (6 * i) + (1 : Int32)).toNatClampNeg) (xs (nI (6 * i) + (2 : Int32)).toNatClampNeg) (xs (nI (6 * i) + (3 : Int32)).toNatClampNeg) (xs (nI (6 * i) + (4 : Int32)).toNatClampNeg) (xs (nI (6 * i) + (5 : Int32)).toNatClampNeg) hI) ⟨k_cwB C tW_1_238 tW_1_235 tW_1_1 okX6_append rfl rfl ⟨Nat.le_of_ble_eq_true rfl, Nat.le_of_ble_eq_true rfl⟩, C.w tW_1_236, C.w tW_1_237⟩ (by rw [hw]; rfl) rfl rfl rfl rfl (Nat.le_of_ble_eq_true rfl) d_law_171 ⟨hcl 0 (by decide), hsl 0 (by decide)⟩) (fun v w1 hv => ?_)
  obtain ⟨x1, rfl, -, e1, hI1⟩ := hv
  refine k_eq (pc := 174) (ws' := ((w1 ++ [(o, .inl (cA 5, 1, .inr (.inl f)))]) ++ wM)) (st' := [.int x1]) (List.append_assoc _ _ _).symm rfl rfl ?_
  refine k_widen (k := 2000 + 8 * i + 8) (n := 100000 + 64 * i + 64) (by omega) (by omega) ?_
  refine k_aload_n C 2 (pc := 174) d_law_174 rfl rfl ?_
  refine k_aload_n C 0 (pc := 175) d_law_175 rfl rfl ?_
  refine k_iload C 4 (pc := 176) d_law_176 rfl ?_
  refine k_iconst C (pc := 178) (v := (1 : Int32)) d_law_178 rfl ?_
  refine k_iadd C (pc := 179) d_law_179 ?_
  refine k_sld C (pc := 180) hX hbl hbA (lw_hin hi hL 1 (by decide)) d_law_180 ?_
  refine k_aload_n C 0 (pc := 181) d_law_181 rfl rfl ?_
  refine k_iload C 4 (pc := 182) d_law_182 rfl ?_
  refine k_iconst C (pc := 184) (v := (2 : Int32)) d_law_184 rfl ?_
  refine k_iadd C (pc := 185) d_law_185 ?_
  refine k_sld C (pc := 186) hX hbl hbA (lw_hin hi hL 2 (by decide)) d_law_186 ?_
  refine k_aload_n C 0 (pc := 187) d_law_187 rfl rfl ?_
  refine k_iload C 4 (pc := 188) d_law_188 rfl ?_
  refine k_iconst C (pc := 190) (v := (3 : Int32)) d_law_190 rfl ?_
  refine k_iadd C (pc := 191) d_law_191 ?_
  refine k_sld C (pc := 192) hX hbl hbA (lw_hin hi hL 3 (by decide)) d_law_192 ?_
  refine k_aload_n C 0 (pc := 193) d_law_193 rfl rfl ?_
  refine k_iload C 4 (pc := 194) d_law_194 rfl ?_
  refine k_iconst C (pc := 196) (v := (4 : Int32)) d_law_196 rfl ?_
  refine k_iadd C (pc := 197) d_law_197 ?_
  refine k_sld C (pc := 198) hX hbl hbA (lw_hin hi hL 4 (by decide)) d_law_198 ?_
  refine k_aload_n C 0 (pc := 199) d_law_199 rfl rfl ?_
  refine k_iload C 4 (pc := 200) d_law_200 rfl ?_
  refine k_iconst C (pc := 202) (v := (5 : Int32)) d_law_202 rfl ?_
  refine k_iadd C (pc := 203) d_law_203 ?_
  refine k_sld C (pc := 204) hX hbl hbA (lw_hin hi hL 5 (by decide)) d_law_204 ?_
  refine k_onR C (pc := 205) (k_runV C (As := [.int (xs (nI (6 * i) + (1 : Int32)).toNatClampNeg), .int (xs (nI (6 * i) + (2 : Int32)).toNatClampNeg), .int (xs (nI (6 * i) + (3 : Int32)).toNatClampNeg), .int (xs (nI (6 * i) + (4 : Int32)).toNatClampNeg), .int (xs (nI (6 * i) + (5 : Int32)).toNatClampNeg)]) (rest := [.int x1]) (ci := 7) (q0 := 0) (mi_append l D cA hm rH rL rC rP r1 r2 r3 (xs (nI (6 * i) + (1 : Int32)).toNatClampNeg) (xs (nI (6 * i) + (2 : Int32)).toNatClampNeg) (xs (nI (6 * i) + (3 : Int32)).toNatClampNeg) (xs (nI (6 * i) + (4 : Int32)).toNatClampNeg) (xs (nI (6 * i) + (5 : Int32)).toNatClampNeg) hI.ok hI.n8 hM) ⟨k_cwB C tW_5_47 tW_5_44 tW_1_8 okX7_append rfl rfl ⟨Nat.le_of_ble_eq_true rfl, Nat.le_of_ble_eq_true rfl⟩, C.w tW_5_45, C.w tW_5_46⟩ (by rw [hwM]; rfl) rfl rfl rfl rfl (Nat.le_of_ble_eq_true rfl) d_law_205 ⟨hcl 8 (by decide), hsl 64 (by decide)⟩) (fun v w4 hv => ?_)
  obtain ⟨x2, rfl, e2, S1, hN, hM1⟩ := hv
  have hI2 := hI1.near hN
  refine k_eq (pc := 208) (ws' := ((w1 ++ [(o, .inl (cA 5, 1, .inr (.inl f)))]) ++ w4)) (st' := [.int x2, .int x1]) rfl rfl rfl ?_
  refine k_widen (k := 2000 + 8 * i + 8) (n := 100000 + 64 * i + 64) (by omega) (by omega) ?_
  refine k_icmp_eq C (pc := 208) (tgt := 1412) d_law_208 (by decide) (fun _ => ?_) (fun c_ => absurd (e1.trans e2.symm) c_)
  refine k_lv (pc := 1412) [0, 1, 2, 3, 4] (lv' := [(0, .ref b), (1, .ref (h 0)), (2, .ref (hm 0)), (3, .ref o), (4, .int (nI (6 * i)))]) rfl ?_
  exact nx _ S1 _ _ _ hI2 hM1
theorem d_law_213 : decode code 213 = .ok (.aload_n 1, 1) := by decide +kernel
theorem d_law_214 : decode code 214 = .ok (.aload_n 0, 1) := by decide +kernel
theorem d_law_215 : decode code 215 = .ok (.iload 4, 2) := by decide +kernel
theorem d_law_217 : decode code 217 = .ok (.iconst 1, 1) := by decide +kernel
theorem d_law_218 : decode code 218 = .ok (.iadd, 1) := by decide +kernel
theorem d_law_219 : decode code 219 = .ok (.iaload, 1) := by decide +kernel
theorem d_law_220 : decode code 220 = .ok (.aload_n 3, 1) := by decide +kernel
theorem d_law_221 : decode code 221 = .ok (.invokestatic 77, 3) := by decide +kernel
theorem d_law_224 : decode code 224 = .ok (.istore 5, 2) := by decide +kernel
theorem d_law_226 : decode code 226 = .ok (.aload_n 2, 1) := by decide +kernel
theorem d_law_227 : decode code 227 = .ok (.aload_n 0, 1) := by decide +kernel
theorem d_law_228 : decode code 228 = .ok (.iload 4, 2) := by decide +kernel
theorem d_law_230 : decode code 230 = .ok (.iconst 1, 1) := by decide +kernel
theorem d_law_231 : decode code 231 = .ok (.iadd, 1) := by decide +kernel
theorem d_law_232 : decode code 232 = .ok (.iaload, 1) := by decide +kernel
theorem d_law_233 : decode code 233 = .ok (.invokevirtual 82, 3) := by decide +kernel
theorem d_law_236 : decode code 236 = .ok (.istore 6, 2) := by decide +kernel
theorem d_law_238 : decode code 238 = .ok (.aload_n 2, 1) := by decide +kernel
theorem d_law_239 : decode code 239 = .ok (.invokevirtual 83, 3) := by decide +kernel
theorem d_law_242 : decode code 242 = .ok (.iload 5, 2) := by decide +kernel
theorem d_law_244 : decode code 244 = .ok (.if_icmp .eq 5, 3) := by decide +kernel
theorem d_law_249 : decode code 249 = .ok (.iload 5, 2) := by decide +kernel
theorem d_law_251 : decode code 251 = .ok (.ifCond .ne 15, 3) := by decide +kernel
theorem d_law_254 : decode code 254 = .ok (.aload_n 3, 1) := by decide +kernel
theorem d_law_255 : decode code 255 = .ok (.iconst 0, 1) := by decide +kernel
theorem d_law_256 : decode code 256 = .ok (.laload, 1) := by decide +kernel
theorem d_law_257 : decode code 257 = .ok (.iload 6, 2) := by decide +kernel
theorem d_law_259 : decode code 259 = .ok (.i2l, 1) := by decide +kernel
theorem d_law_260 : decode code 260 = .ok (.lcmp, 1) := by decide +kernel
theorem d_law_261 : decode code 261 = .ok (.ifCond .eq 5, 3) := by decide +kernel
theorem d_law_266 : decode code 266 = .ok (.goto 1146, 3) := by decide +kernel
set_option maxHeartbeats 1000000 in
theorem law_c1 {p : Program} {l : Launch} {e : Env} {s : State} {m : MethodId} {below : List Frame} {meth : Method} {c : Code} {D : va_G} {cA : Nat → ClassId} {b L : Nat} {xs : Nat → Int32} (C : Cx p s m meth c code 9 #[Value.ref b] lw_tbl "WidowWatchLaw" D cA (fun q => s.heap.size ≤ q)) (hE : EvY D cA (fun q => s.heap.size ≤ q) s s.heap) (hst : l.stackTraces = false) (hX : va_X b L xs s s.heap) (hbl : b < s.heap.size) (o : Nat) (h ab ac ar hm rH rL rC rP r1 r2 r3 : Nat → Nat) {Q : State → Prop} (i : Nat) (hi : 6 * i + 6 ≤ L) (hL : L ≤ 3072) {f : Nat → Int64} {S : ivS} {th : Int32} {w wM : va_W} (hI : ivI cA h ab ac ar S false w) (hM : imI cA hm rH rL rC rP r1 r2 r3 S th wM) (nx : ∀ (f : Nat → Int64) (S : ivS) (th : Int32) (w wM : va_W), ivI cA h ab ac ar S false w → imI cA hm rH rL rC rP r1 r2 r3 S th wM → lwK p l e s m below meth c D b Q (2000 + 8 * i + 8) (100000 + 64 * i + 64) ((w ++ [(o, .inl (cA 5, 1, .inr (.inl f)))]) ++ wM) 1412 [(0, .ref b), (1, .ref (h 0)), (2, .ref (hm 0)), (3, .ref o), (4, .int (nI (6 * i)))] []) : lwK p l e s m below meth c D b Q (2000 + 8 * i) (100000 + 64 * i) ((w ++ [(o, .inl (cA 5, 1, .inr (.inl f)))]) ++ wM) 213 [(0, .ref b), (1, .ref (h 0)), (2, .ref (hm 0)), (3, .ref o), (4, .int (nI (6 * i)))] [] := by
  have hbA : ¬ (fun q => s.heap.size ≤ q) b := Nat.not_le.mpr hbl
  have hcl : ∀ j, j ≤ 8 → 2000 + 8 * i + j ≤ room_1.cells := fun j hj => by
    show _ ≤ 601024
    omega
  have hsl : ∀ j, j ≤ 64 → 100000 + 64 * i + j ≤ room_1.slots := fun j hj => by
    show _ ≤ 7293034
    omega
  obtain ⟨fs, t, hw⟩ := hI.hd
  obtain ⟨fsM, tM, hwM⟩ := hM.hd
  refine k_aload_n C 1 (pc := 213) d_law_213 rfl rfl ?_
  refine k_aload_n C 0 (pc := 214) d_law_214 rfl rfl ?_
  refine k_iload C 4 (pc := 215) d_law_215 rfl ?_
  refine k_iconst C (pc := 217) (v := (1 : Int32)) d_law_217 rfl ?_
  refine k_iadd C (pc := 218) d_law_218 ?_
  refine k_sld C (pc := 219) hX hbl hbA (lw_hin hi hL 1 (by decide)) d_law_219 ?_
  refine k_aload_n C 3 (pc := 220) d_law_220 rfl rfl ?_
  refine kx_onL C (pc := 221) (ky_runS C hE (As := [.ref (h 0), .int (xs (nI (6 * i) + (1 : Int32)).toNatClampNeg), .ref o]) (rest := []) (wl_load l D cA h ab ac ar hst (xs (nI (6 * i) + (1 : Int32)).toNatClampNeg) hI o f) (ky_cw C tYL_load tW_3_7 tW_1_0 tW_3_8 okL_load rfl rfl ⟨Nat.le_of_ble_eq_true rfl, Nat.le_of_ble_eq_true rfl⟩) rfl rfl (Nat.le_of_ble_eq_true rfl) d_law_221 ⟨hcl 1 (by decide), hsl 6 (by decide)⟩) (fun v w1 h_ => by obtain ⟨r, rfl, -, w2, f2, rfl, h1, -⟩ := h_; rw [List.map_append, List.map_append, h1.ad, hI.ad]; rfl) (fun E w1 h_ => h_.elim) (fun E w1 hx => hx.elim) (fun v w1 hv => ?_)
  obtain ⟨k1, rfl, e1, w2, f2, rfl, hI1, ho⟩ := hv
  refine k_eq (pc := 224) (ws' := ((w2 ++ [(o, .inl (cA 5, 1, .inr (.inl f2)))]) ++ wM)) (st' := [.int k1]) rfl rfl rfl ?_
  refine k_widen (k := 2000 + 8 * i + 8) (n := 100000 + 64 * i + 64) (by omega) (by omega) ?_
  refine k_istore C (pc := 224) d_law_224 (Nat.lt_of_lt_of_le (Nat.lt_succ_self _) (Nat.le_of_ble_eq_true rfl)) (lv' := [(5, .int k1), (0, .ref b), (1, .ref (h 0)), (2, .ref (hm 0)), (3, .ref o), (4, .int (nI (6 * i)))]) rfl ?_
  refine k_aload_n C 3 (pc := 226) d_law_226 rfl rfl ?_
  refine k_aload_n C 1 (pc := 227) d_law_227 rfl rfl ?_
  refine k_iload C 5 (pc := 228) d_law_228 rfl ?_
  refine k_iconst C (pc := 230) (v := (1 : Int32)) d_law_230 rfl ?_
  refine k_iadd C (pc := 231) d_law_231 ?_
  refine k_sld C (pc := 232) hX hbl hbA (lw_hin hi hL 1 (by decide)) d_law_232 ?_
  refine k_onR C (pc := 233) (k_runV C (As := [.int (xs (nI (6 * i) + (1 : Int32)).toNatClampNeg)]) (rest := []) (ci := 7) (q0 := 0) (mi_load l D cA hm rH rL rC rP r1 r2 r3 (xs (nI (6 * i) + (1 : Int32)).toNatClampNeg) hI.ok hI.n8 hM) ⟨k_cwB C tW_5_51 tW_5_48 tW_1_8 okX7_load rfl rfl ⟨Nat.le_of_ble_eq_true rfl, Nat.le_of_ble_eq_true rfl⟩, C.w tW_5_49, C.w tW_5_50⟩ (by rw [hwM]; rfl) rfl rfl rfl rfl (Nat.le_of_ble_eq_true rfl) d_law_233 ⟨hcl 8 (by decide), hsl 64 (by decide)⟩) (fun v w4 hv => ?_)
  obtain ⟨x2, rfl, e2, S1, hN, hM1⟩ := hv
  have hI2 := hI1.near hN
  refine k_eq (pc := 236) (ws' := ((w2 ++ [(o, .inl (cA 5, 1, .inr (.inl f2)))]) ++ w4)) (st' := [.int x2]) rfl rfl rfl ?_
  refine k_widen (k := 2000 + 8 * i + 8) (n := 100000 + 64 * i + 64) (by omega) (by omega) ?_
  refine k_istore C (pc := 236) d_law_236 (Nat.lt_of_lt_of_le (Nat.lt_succ_self _) (Nat.le_of_ble_eq_true rfl)) (lv' := [(6, .int x2), (5, .int k1), (0, .ref b), (1, .ref (h 0)), (2, .ref (hm 0)), (3, .ref o), (4, .int (nI (6 * i)))]) rfl ?_
  refine k_aload_n C 4 (pc := 238) d_law_238 rfl rfl ?_
  obtain ⟨fsM1, tM1, hwM1⟩ := hM1.hd
  refine k_onR C (pc := 239) (k_runV C (As := []) (rest := []) (ci := 7) (q0 := 0) (mi_thrown l D cA hm rH rL rC rP r1 r2 r3 hI2.ok hI2.n8 hM1) ⟨k_cwB C tW_5_43 tW_5_40 tW_1_8 okX7_thrown rfl rfl ⟨Nat.le_of_ble_eq_true rfl, Nat.le_of_ble_eq_true rfl⟩, C.w tW_5_41, C.w tW_5_42⟩ (by rw [hwM1]; rfl) rfl rfl rfl rfl (Nat.le_of_ble_eq_true rfl) d_law_239 ⟨hcl 8 (by decide), hsl 64 (by decide)⟩) (fun v w4 hv => ?_)
  obtain ⟨t1, rfl, e3, hM2⟩ := hv
  refine k_eq (pc := 242) (ws' := ((w2 ++ [(o, .inl (cA 5, 1, .inr (.inl f2)))]) ++ w4)) (st' := [.int t1]) rfl rfl rfl ?_
  refine k_widen (k := 2000 + 8 * i + 8) (n := 100000 + 64 * i + 64) (by omega) (by omega) ?_
  refine k_iload C 1 (pc := 242) d_law_242 rfl ?_
  refine k_icmp_eq C (pc := 244) (tgt := 249) d_law_244 (by decide) (fun _ => ?_) (fun c_ => absurd (e3.trans e1.symm) c_)
  refine k_iload C 1 (pc := 249) d_law_249 rfl ?_
  have T2 : lwK p l e s m below meth c D b Q (2000 + 8 * i + 8) (100000 + 64 * i + 64) ((w2 ++ [(o, .inl (cA 5, 1, .inr (.inl f2)))]) ++ w4) 266 [(6, .int x2), (5, .int k1), (0, .ref b), (1, .ref (h 0)), (2, .ref (hm 0)), (3, .ref o), (4, .int (nI (6 * i)))] [] := by
    refine k_goto C (pc := 266) (tgt := 1412) d_law_266 (by decide) ?_
    refine k_lv (pc := 1412) [2, 3, 4, 5, 6] (lv' := [(0, .ref b), (1, .ref (h 0)), (2, .ref (hm 0)), (3, .ref o), (4, .int (nI (6 * i)))]) rfl ?_
    exact nx _ S1 _ _ _ hI2 hM2
  refine k_if_ne C (pc := 251) (tgt := 266) d_law_251 (by decide) (fun _ => T2) (fun c_ => ?_)
  refine k_aload_n C 5 (pc := 254) d_law_254 rfl rfl ?_
  refine k_iconst C (pc := 255) (v := (0 : Int32)) d_law_255 rfl ?_
  refine k_lald C (pc := 256) w2.length (cc_get2 _ _ _) (vp_in_nI (n := 0) (by decide) (by decide)) d_law_256 ?_
  refine k_iload C 0 (pc := 257) d_law_257 rfl ?_
  have hv : f2 0 = x2.toInt64 := (ho (e1.symm.trans c_)).trans (congrArg Int32.toInt64 e2).symm
  refine k_i2l C (pc := 259) (v := x2.toInt64) d_law_259 rfl ?_
  refine k_lcmp C (pc := 260) d_law_260 ?_
  have hz : lg_cmp (f2 (0 : Int32).toNatClampNeg) x2.toInt64 = 0 := by
    show lg_cmp (f2 0) _ = 0
    rw [hv]
    exact lg_self _
  exact k_if_eq C (pc := 261) (tgt := 266) d_law_261 (by decide) (fun _ => T2) (fun c_ => absurd hz c_)
theorem d_law_269 : decode code 269 = .ok (.aload_n 1, 1) := by decide +kernel
theorem d_law_270 : decode code 270 = .ok (.invokevirtual 87, 3) := by decide +kernel
theorem d_law_273 : decode code 273 = .ok (.aload_n 2, 1) := by decide +kernel
theorem d_law_274 : decode code 274 = .ok (.invokevirtual 90, 3) := by decide +kernel
theorem d_law_277 : decode code 277 = .ok (.if_icmp .eq 1135, 3) := by decide +kernel
set_option maxHeartbeats 1000000 in
theorem law_c2 {p : Program} {l : Launch} {e : Env} {s : State} {m : MethodId} {below : List Frame} {meth : Method} {c : Code} {D : va_G} {cA : Nat → ClassId} {b L : Nat} {xs : Nat → Int32} (C : Cx p s m meth c code 9 #[Value.ref b] lw_tbl "WidowWatchLaw" D cA (fun q => s.heap.size ≤ q)) (hE : EvY D cA (fun q => s.heap.size ≤ q) s s.heap) (hst : l.stackTraces = false) (hX : va_X b L xs s s.heap) (hbl : b < s.heap.size) (o : Nat) (h ab ac ar hm rH rL rC rP r1 r2 r3 : Nat → Nat) {Q : State → Prop} (i : Nat) (hi : 6 * i + 6 ≤ L) (hL : L ≤ 3072) {f : Nat → Int64} {S : ivS} {th : Int32} {w wM : va_W} (hI : ivI cA h ab ac ar S false w) (hM : imI cA hm rH rL rC rP r1 r2 r3 S th wM) (nx : ∀ (f : Nat → Int64) (S : ivS) (th : Int32) (w wM : va_W), ivI cA h ab ac ar S false w → imI cA hm rH rL rC rP r1 r2 r3 S th wM → lwK p l e s m below meth c D b Q (2000 + 8 * i + 8) (100000 + 64 * i + 64) ((w ++ [(o, .inl (cA 5, 1, .inr (.inl f)))]) ++ wM) 1412 [(0, .ref b), (1, .ref (h 0)), (2, .ref (hm 0)), (3, .ref o), (4, .int (nI (6 * i)))] []) : lwK p l e s m below meth c D b Q (2000 + 8 * i) (100000 + 64 * i) ((w ++ [(o, .inl (cA 5, 1, .inr (.inl f)))]) ++ wM) 269 [(0, .ref b), (1, .ref (h 0)), (2, .ref (hm 0)), (3, .ref o), (4, .int (nI (6 * i)))] [] := by
  have hbA : ¬ (fun q => s.heap.size ≤ q) b := Nat.not_le.mpr hbl
  have hcl : ∀ j, j ≤ 8 → 2000 + 8 * i + j ≤ room_1.cells := fun j hj => by
    show _ ≤ 601024
    omega
  have hsl : ∀ j, j ≤ 64 → 100000 + 64 * i + j ≤ room_1.slots := fun j hj => by
    show _ ≤ 7293034
    omega
  obtain ⟨fs, t, hw⟩ := hI.hd
  obtain ⟨fsM, tM, hwM⟩ := hM.hd
  refine k_aload_n C 1 (pc := 269) d_law_269 rfl rfl ?_
  refine k_eq (pc := 270) (ws' := w ++ ([(o, .inl (cA 5, 1, .inr (.inl f)))] ++ wM)) (List.append_assoc _ _ _) rfl rfl ?_
  refine k_onL C (pc := 270) (k_runV C (As := []) (rest := []) (ci := 6) (q0 := 0) (xi_errorOffset l D cA h ab ac ar  hI) ⟨k_cwB C tW_2_9 tW_2_6 tW_1_1 okX6_errorOffset rfl rfl ⟨Nat.le_of_ble_eq_true rfl, Nat.le_of_ble_eq_true rfl⟩, C.w tW_2_7, C.w tW_2_8⟩ (by rw [hw]; rfl) rfl rfl rfl rfl (Nat.le_of_ble_eq_true rfl) d_law_270 ⟨hcl 0 (by decide), hsl 0 (by decide)⟩) (fun v w1 hv => ?_)
  obtain ⟨x1, rfl, -, e1, hI1⟩ := hv
  refine k_eq (pc := 273) (ws' := ((w1 ++ [(o, .inl (cA 5, 1, .inr (.inl f)))]) ++ wM)) (st' := [.int x1]) (List.append_assoc _ _ _).symm rfl rfl ?_
  refine k_widen (k := 2000 + 8 * i + 8) (n := 100000 + 64 * i + 64) (by omega) (by omega) ?_
  refine k_aload_n C 2 (pc := 273) d_law_273 rfl rfl ?_
  refine k_onR C (pc := 274) (k_runV C (As := []) (rest := [.int x1]) (ci := 7) (q0 := 0) (mi_errorOffset l D cA hm rH rL rC rP r1 r2 r3  hI.ok hI.n8 hM) ⟨k_cwB C tW_5_127 tW_5_124 tW_1_8 okX7_errorOffset rfl rfl ⟨Nat.le_of_ble_eq_true rfl, Nat.le_of_ble_eq_true rfl⟩, C.w tW_5_125, C.w tW_5_126⟩ (by rw [hwM]; rfl) rfl rfl rfl rfl (Nat.le_of_ble_eq_true rfl) d_law_274 ⟨hcl 8 (by decide), hsl 64 (by decide)⟩) (fun v w4 hv => ?_)
  obtain ⟨x2, rfl, e2, S1, hN, hM1⟩ := hv
  have hI2 := hI1.near hN
  refine k_eq (pc := 277) (ws' := ((w1 ++ [(o, .inl (cA 5, 1, .inr (.inl f)))]) ++ w4)) (st' := [.int x2, .int x1]) rfl rfl rfl ?_
  refine k_widen (k := 2000 + 8 * i + 8) (n := 100000 + 64 * i + 64) (by omega) (by omega) ?_
  refine k_icmp_eq C (pc := 277) (tgt := 1412) d_law_277 (by decide) (fun _ => ?_) (fun c_ => absurd (e1.trans e2.symm) c_)
  refine k_lv (pc := 1412) [0, 1, 2, 3, 4] (lv' := [(0, .ref b), (1, .ref (h 0)), (2, .ref (hm 0)), (3, .ref o), (4, .int (nI (6 * i)))]) rfl ?_
  exact nx _ S1 _ _ _ hI2 hM1
theorem d_law_282 : decode code 282 = .ok (.aload_n 1, 1) := by decide +kernel
theorem d_law_283 : decode code 283 = .ok (.aload_n 0, 1) := by decide +kernel
theorem d_law_284 : decode code 284 = .ok (.iload 4, 2) := by decide +kernel
theorem d_law_286 : decode code 286 = .ok (.iconst 1, 1) := by decide +kernel
theorem d_law_287 : decode code 287 = .ok (.iadd, 1) := by decide +kernel
theorem d_law_288 : decode code 288 = .ok (.iaload, 1) := by decide +kernel
theorem d_law_289 : decode code 289 = .ok (.aload_n 3, 1) := by decide +kernel
theorem d_law_290 : decode code 290 = .ok (.invokestatic 91, 3) := by decide +kernel
theorem d_law_293 : decode code 293 = .ok (.istore 5, 2) := by decide +kernel
theorem d_law_295 : decode code 295 = .ok (.aload_n 2, 1) := by decide +kernel
theorem d_law_296 : decode code 296 = .ok (.aload_n 0, 1) := by decide +kernel
theorem d_law_297 : decode code 297 = .ok (.iload 4, 2) := by decide +kernel
theorem d_law_299 : decode code 299 = .ok (.iconst 1, 1) := by decide +kernel
theorem d_law_300 : decode code 300 = .ok (.iadd, 1) := by decide +kernel
theorem d_law_301 : decode code 301 = .ok (.iaload, 1) := by decide +kernel
theorem d_law_302 : decode code 302 = .ok (.invokevirtual 93, 3) := by decide +kernel
theorem d_law_305 : decode code 305 = .ok (.istore 6, 2) := by decide +kernel
theorem d_law_307 : decode code 307 = .ok (.aload_n 2, 1) := by decide +kernel
theorem d_law_308 : decode code 308 = .ok (.invokevirtual 83, 3) := by decide +kernel
theorem d_law_311 : decode code 311 = .ok (.iload 5, 2) := by decide +kernel
theorem d_law_313 : decode code 313 = .ok (.if_icmp .eq 5, 3) := by decide +kernel
theorem d_law_318 : decode code 318 = .ok (.iload 5, 2) := by decide +kernel
theorem d_law_320 : decode code 320 = .ok (.ifCond .ne 15, 3) := by decide +kernel
theorem d_law_323 : decode code 323 = .ok (.aload_n 3, 1) := by decide +kernel
theorem d_law_324 : decode code 324 = .ok (.iconst 0, 1) := by decide +kernel
theorem d_law_325 : decode code 325 = .ok (.laload, 1) := by decide +kernel
theorem d_law_326 : decode code 326 = .ok (.iload 6, 2) := by decide +kernel
theorem d_law_328 : decode code 328 = .ok (.i2l, 1) := by decide +kernel
theorem d_law_329 : decode code 329 = .ok (.lcmp, 1) := by decide +kernel
theorem d_law_330 : decode code 330 = .ok (.ifCond .eq 5, 3) := by decide +kernel
theorem d_law_335 : decode code 335 = .ok (.goto 1077, 3) := by decide +kernel
set_option maxHeartbeats 1000000 in
theorem law_c3 {p : Program} {l : Launch} {e : Env} {s : State} {m : MethodId} {below : List Frame} {meth : Method} {c : Code} {D : va_G} {cA : Nat → ClassId} {b L : Nat} {xs : Nat → Int32} (C : Cx p s m meth c code 9 #[Value.ref b] lw_tbl "WidowWatchLaw" D cA (fun q => s.heap.size ≤ q)) (hE : EvY D cA (fun q => s.heap.size ≤ q) s s.heap) (hst : l.stackTraces = false) (hX : va_X b L xs s s.heap) (hbl : b < s.heap.size) (o : Nat) (h ab ac ar hm rH rL rC rP r1 r2 r3 : Nat → Nat) {Q : State → Prop} (i : Nat) (hi : 6 * i + 6 ≤ L) (hL : L ≤ 3072) {f : Nat → Int64} {S : ivS} {th : Int32} {w wM : va_W} (hI : ivI cA h ab ac ar S false w) (hM : imI cA hm rH rL rC rP r1 r2 r3 S th wM) (nx : ∀ (f : Nat → Int64) (S : ivS) (th : Int32) (w wM : va_W), ivI cA h ab ac ar S false w → imI cA hm rH rL rC rP r1 r2 r3 S th wM → lwK p l e s m below meth c D b Q (2000 + 8 * i + 8) (100000 + 64 * i + 64) ((w ++ [(o, .inl (cA 5, 1, .inr (.inl f)))]) ++ wM) 1412 [(0, .ref b), (1, .ref (h 0)), (2, .ref (hm 0)), (3, .ref o), (4, .int (nI (6 * i)))] []) : lwK p l e s m below meth c D b Q (2000 + 8 * i) (100000 + 64 * i) ((w ++ [(o, .inl (cA 5, 1, .inr (.inl f)))]) ++ wM) 282 [(0, .ref b), (1, .ref (h 0)), (2, .ref (hm 0)), (3, .ref o), (4, .int (nI (6 * i)))] [] := by
  have hbA : ¬ (fun q => s.heap.size ≤ q) b := Nat.not_le.mpr hbl
  have hcl : ∀ j, j ≤ 8 → 2000 + 8 * i + j ≤ room_1.cells := fun j hj => by
    show _ ≤ 601024
    omega
  have hsl : ∀ j, j ≤ 64 → 100000 + 64 * i + j ≤ room_1.slots := fun j hj => by
    show _ ≤ 7293034
    omega
  obtain ⟨fs, t, hw⟩ := hI.hd
  obtain ⟨fsM, tM, hwM⟩ := hM.hd
  refine k_aload_n C 1 (pc := 282) d_law_282 rfl rfl ?_
  refine k_aload_n C 0 (pc := 283) d_law_283 rfl rfl ?_
  refine k_iload C 4 (pc := 284) d_law_284 rfl ?_
  refine k_iconst C (pc := 286) (v := (1 : Int32)) d_law_286 rfl ?_
  refine k_iadd C (pc := 287) d_law_287 ?_
  refine k_sld C (pc := 288) hX hbl hbA (lw_hin hi hL 1 (by decide)) d_law_288 ?_
  refine k_aload_n C 3 (pc := 289) d_law_289 rfl rfl ?_
  refine kx_onL C (pc := 290) (ky_runS C hE (As := [.ref (h 0), .int (xs (nI (6 * i) + (1 : Int32)).toNatClampNeg), .ref o]) (rest := []) (wl_state l D cA h ab ac ar hst (xs (nI (6 * i) + (1 : Int32)).toNatClampNeg) hI o f) (ky_cw C tYL_state tW_3_229 tW_1_0 tW_3_230 okL_state rfl rfl ⟨Nat.le_of_ble_eq_true rfl, Nat.le_of_ble_eq_true rfl⟩) rfl rfl (Nat.le_of_ble_eq_true rfl) d_law_290 ⟨hcl 1 (by decide), hsl 6 (by decide)⟩) (fun v w1 h_ => by obtain ⟨r, rfl, -, w2, f2, rfl, h1, -⟩ := h_; rw [List.map_append, List.map_append, h1.ad, hI.ad]; rfl) (fun E w1 h_ => h_.elim) (fun E w1 hx => hx.elim) (fun v w1 hv => ?_)
  obtain ⟨k1, rfl, e1, w2, f2, rfl, hI1, ho⟩ := hv
  refine k_eq (pc := 293) (ws' := ((w2 ++ [(o, .inl (cA 5, 1, .inr (.inl f2)))]) ++ wM)) (st' := [.int k1]) rfl rfl rfl ?_
  refine k_widen (k := 2000 + 8 * i + 8) (n := 100000 + 64 * i + 64) (by omega) (by omega) ?_
  refine k_istore C (pc := 293) d_law_293 (Nat.lt_of_lt_of_le (Nat.lt_succ_self _) (Nat.le_of_ble_eq_true rfl)) (lv' := [(5, .int k1), (0, .ref b), (1, .ref (h 0)), (2, .ref (hm 0)), (3, .ref o), (4, .int (nI (6 * i)))]) rfl ?_
  refine k_aload_n C 3 (pc := 295) d_law_295 rfl rfl ?_
  refine k_aload_n C 1 (pc := 296) d_law_296 rfl rfl ?_
  refine k_iload C 5 (pc := 297) d_law_297 rfl ?_
  refine k_iconst C (pc := 299) (v := (1 : Int32)) d_law_299 rfl ?_
  refine k_iadd C (pc := 300) d_law_300 ?_
  refine k_sld C (pc := 301) hX hbl hbA (lw_hin hi hL 1 (by decide)) d_law_301 ?_
  refine k_onR C (pc := 302) (k_runV C (As := [.int (xs (nI (6 * i) + (1 : Int32)).toNatClampNeg)]) (rest := []) (ci := 7) (q0 := 0) (mi_state l D cA hm rH rL rC rP r1 r2 r3 (xs (nI (6 * i) + (1 : Int32)).toNatClampNeg) hI.ok hI.n8 hM) ⟨k_cwB C tW_5_131 tW_5_128 tW_1_8 okX7_state rfl rfl ⟨Nat.le_of_ble_eq_true rfl, Nat.le_of_ble_eq_true rfl⟩, C.w tW_5_129, C.w tW_5_130⟩ (by rw [hwM]; rfl) rfl rfl rfl rfl (Nat.le_of_ble_eq_true rfl) d_law_302 ⟨hcl 8 (by decide), hsl 64 (by decide)⟩) (fun v w4 hv => ?_)
  obtain ⟨x2, rfl, e2, S1, hN, hM1⟩ := hv
  have hI2 := hI1.near hN
  refine k_eq (pc := 305) (ws' := ((w2 ++ [(o, .inl (cA 5, 1, .inr (.inl f2)))]) ++ w4)) (st' := [.int x2]) rfl rfl rfl ?_
  refine k_widen (k := 2000 + 8 * i + 8) (n := 100000 + 64 * i + 64) (by omega) (by omega) ?_
  refine k_istore C (pc := 305) d_law_305 (Nat.lt_of_lt_of_le (Nat.lt_succ_self _) (Nat.le_of_ble_eq_true rfl)) (lv' := [(6, .int x2), (5, .int k1), (0, .ref b), (1, .ref (h 0)), (2, .ref (hm 0)), (3, .ref o), (4, .int (nI (6 * i)))]) rfl ?_
  refine k_aload_n C 4 (pc := 307) d_law_307 rfl rfl ?_
  obtain ⟨fsM1, tM1, hwM1⟩ := hM1.hd
  refine k_onR C (pc := 308) (k_runV C (As := []) (rest := []) (ci := 7) (q0 := 0) (mi_thrown l D cA hm rH rL rC rP r1 r2 r3 hI2.ok hI2.n8 hM1) ⟨k_cwB C tW_5_43 tW_5_40 tW_1_8 okX7_thrown rfl rfl ⟨Nat.le_of_ble_eq_true rfl, Nat.le_of_ble_eq_true rfl⟩, C.w tW_5_41, C.w tW_5_42⟩ (by rw [hwM1]; rfl) rfl rfl rfl rfl (Nat.le_of_ble_eq_true rfl) d_law_308 ⟨hcl 8 (by decide), hsl 64 (by decide)⟩) (fun v w4 hv => ?_)
  obtain ⟨t1, rfl, e3, hM2⟩ := hv
  refine k_eq (pc := 311) (ws' := ((w2 ++ [(o, .inl (cA 5, 1, .inr (.inl f2)))]) ++ w4)) (st' := [.int t1]) rfl rfl rfl ?_
  refine k_widen (k := 2000 + 8 * i + 8) (n := 100000 + 64 * i + 64) (by omega) (by omega) ?_
  refine k_iload C 1 (pc := 311) d_law_311 rfl ?_
  refine k_icmp_eq C (pc := 313) (tgt := 318) d_law_313 (by decide) (fun _ => ?_) (fun c_ => absurd (e3.trans e1.symm) c_)
  refine k_iload C 1 (pc := 318) d_law_318 rfl ?_
  have T2 : lwK p l e s m below meth c D b Q (2000 + 8 * i + 8) (100000 + 64 * i + 64) ((w2 ++ [(o, .inl (cA 5, 1, .inr (.inl f2)))]) ++ w4) 335 [(6, .int x2), (5, .int k1), (0, .ref b), (1, .ref (h 0)), (2, .ref (hm 0)), (3, .ref o), (4, .int (nI (6 * i)))] [] := by
    refine k_goto C (pc := 335) (tgt := 1412) d_law_335 (by decide) ?_
    refine k_lv (pc := 1412) [2, 3, 4, 5, 6] (lv' := [(0, .ref b), (1, .ref (h 0)), (2, .ref (hm 0)), (3, .ref o), (4, .int (nI (6 * i)))]) rfl ?_
    exact nx _ S1 _ _ _ hI2 hM2
  refine k_if_ne C (pc := 320) (tgt := 335) d_law_320 (by decide) (fun _ => T2) (fun c_ => ?_)
  refine k_aload_n C 5 (pc := 323) d_law_323 rfl rfl ?_
  refine k_iconst C (pc := 324) (v := (0 : Int32)) d_law_324 rfl ?_
  refine k_lald C (pc := 325) w2.length (cc_get2 _ _ _) (vp_in_nI (n := 0) (by decide) (by decide)) d_law_325 ?_
  refine k_iload C 0 (pc := 326) d_law_326 rfl ?_
  have hv : f2 0 = x2.toInt64 := (ho (e1.symm.trans c_)).trans (congrArg Int32.toInt64 e2).symm
  refine k_i2l C (pc := 328) (v := x2.toInt64) d_law_328 rfl ?_
  refine k_lcmp C (pc := 329) d_law_329 ?_
  have hz : lg_cmp (f2 (0 : Int32).toNatClampNeg) x2.toInt64 = 0 := by
    show lg_cmp (f2 0) _ = 0
    rw [hv]
    exact lg_self _
  exact k_if_eq C (pc := 330) (tgt := 335) d_law_330 (by decide) (fun _ => T2) (fun c_ => absurd hz c_)
theorem d_law_338 : decode code 338 = .ok (.aload_n 1, 1) := by decide +kernel
theorem d_law_339 : decode code 339 = .ok (.aload_n 0, 1) := by decide +kernel
theorem d_law_340 : decode code 340 = .ok (.iload 4, 2) := by decide +kernel
theorem d_law_342 : decode code 342 = .ok (.iconst 1, 1) := by decide +kernel
theorem d_law_343 : decode code 343 = .ok (.iadd, 1) := by decide +kernel
theorem d_law_344 : decode code 344 = .ok (.iaload, 1) := by decide +kernel
theorem d_law_345 : decode code 345 = .ok (.aload_n 0, 1) := by decide +kernel
theorem d_law_346 : decode code 346 = .ok (.iload 4, 2) := by decide +kernel
theorem d_law_348 : decode code 348 = .ok (.iconst 2, 1) := by decide +kernel
theorem d_law_349 : decode code 349 = .ok (.iadd, 1) := by decide +kernel
theorem d_law_350 : decode code 350 = .ok (.iaload, 1) := by decide +kernel
theorem d_law_351 : decode code 351 = .ok (.aload_n 3, 1) := by decide +kernel
theorem d_law_352 : decode code 352 = .ok (.invokestatic 94, 3) := by decide +kernel
theorem d_law_355 : decode code 355 = .ok (.istore 5, 2) := by decide +kernel
theorem d_law_357 : decode code 357 = .ok (.aload_n 2, 1) := by decide +kernel
theorem d_law_358 : decode code 358 = .ok (.aload_n 0, 1) := by decide +kernel
theorem d_law_359 : decode code 359 = .ok (.iload 4, 2) := by decide +kernel
theorem d_law_361 : decode code 361 = .ok (.iconst 1, 1) := by decide +kernel
theorem d_law_362 : decode code 362 = .ok (.iadd, 1) := by decide +kernel
theorem d_law_363 : decode code 363 = .ok (.iaload, 1) := by decide +kernel
theorem d_law_364 : decode code 364 = .ok (.aload_n 0, 1) := by decide +kernel
theorem d_law_365 : decode code 365 = .ok (.iload 4, 2) := by decide +kernel
theorem d_law_367 : decode code 367 = .ok (.iconst 2, 1) := by decide +kernel
theorem d_law_368 : decode code 368 = .ok (.iadd, 1) := by decide +kernel
theorem d_law_369 : decode code 369 = .ok (.iaload, 1) := by decide +kernel
theorem d_law_370 : decode code 370 = .ok (.invokevirtual 97, 3) := by decide +kernel
theorem d_law_373 : decode code 373 = .ok (.istore 6, 2) := by decide +kernel
theorem d_law_375 : decode code 375 = .ok (.aload_n 2, 1) := by decide +kernel
theorem d_law_376 : decode code 376 = .ok (.invokevirtual 83, 3) := by decide +kernel
theorem d_law_379 : decode code 379 = .ok (.iload 5, 2) := by decide +kernel
theorem d_law_381 : decode code 381 = .ok (.if_icmp .eq 5, 3) := by decide +kernel
theorem d_law_386 : decode code 386 = .ok (.iload 5, 2) := by decide +kernel
theorem d_law_388 : decode code 388 = .ok (.ifCond .ne 15, 3) := by decide +kernel
theorem d_law_391 : decode code 391 = .ok (.aload_n 3, 1) := by decide +kernel
theorem d_law_392 : decode code 392 = .ok (.iconst 0, 1) := by decide +kernel
theorem d_law_393 : decode code 393 = .ok (.laload, 1) := by decide +kernel
theorem d_law_394 : decode code 394 = .ok (.iload 6, 2) := by decide +kernel
theorem d_law_396 : decode code 396 = .ok (.i2l, 1) := by decide +kernel
theorem d_law_397 : decode code 397 = .ok (.lcmp, 1) := by decide +kernel
theorem d_law_398 : decode code 398 = .ok (.ifCond .eq 5, 3) := by decide +kernel
theorem d_law_403 : decode code 403 = .ok (.goto 1009, 3) := by decide +kernel
set_option maxHeartbeats 1000000 in
theorem law_c4 {p : Program} {l : Launch} {e : Env} {s : State} {m : MethodId} {below : List Frame} {meth : Method} {c : Code} {D : va_G} {cA : Nat → ClassId} {b L : Nat} {xs : Nat → Int32} (C : Cx p s m meth c code 9 #[Value.ref b] lw_tbl "WidowWatchLaw" D cA (fun q => s.heap.size ≤ q)) (hE : EvY D cA (fun q => s.heap.size ≤ q) s s.heap) (hst : l.stackTraces = false) (hX : va_X b L xs s s.heap) (hbl : b < s.heap.size) (o : Nat) (h ab ac ar hm rH rL rC rP r1 r2 r3 : Nat → Nat) {Q : State → Prop} (i : Nat) (hi : 6 * i + 6 ≤ L) (hL : L ≤ 3072) {f : Nat → Int64} {S : ivS} {th : Int32} {w wM : va_W} (hI : ivI cA h ab ac ar S false w) (hM : imI cA hm rH rL rC rP r1 r2 r3 S th wM) (nx : ∀ (f : Nat → Int64) (S : ivS) (th : Int32) (w wM : va_W), ivI cA h ab ac ar S false w → imI cA hm rH rL rC rP r1 r2 r3 S th wM → lwK p l e s m below meth c D b Q (2000 + 8 * i + 8) (100000 + 64 * i + 64) ((w ++ [(o, .inl (cA 5, 1, .inr (.inl f)))]) ++ wM) 1412 [(0, .ref b), (1, .ref (h 0)), (2, .ref (hm 0)), (3, .ref o), (4, .int (nI (6 * i)))] []) : lwK p l e s m below meth c D b Q (2000 + 8 * i) (100000 + 64 * i) ((w ++ [(o, .inl (cA 5, 1, .inr (.inl f)))]) ++ wM) 338 [(0, .ref b), (1, .ref (h 0)), (2, .ref (hm 0)), (3, .ref o), (4, .int (nI (6 * i)))] [] := by
  have hbA : ¬ (fun q => s.heap.size ≤ q) b := Nat.not_le.mpr hbl
  have hcl : ∀ j, j ≤ 8 → 2000 + 8 * i + j ≤ room_1.cells := fun j hj => by
    show _ ≤ 601024
    omega
  have hsl : ∀ j, j ≤ 64 → 100000 + 64 * i + j ≤ room_1.slots := fun j hj => by
    show _ ≤ 7293034
    omega
  obtain ⟨fs, t, hw⟩ := hI.hd
  obtain ⟨fsM, tM, hwM⟩ := hM.hd
  refine k_aload_n C 1 (pc := 338) d_law_338 rfl rfl ?_
  refine k_aload_n C 0 (pc := 339) d_law_339 rfl rfl ?_
  refine k_iload C 4 (pc := 340) d_law_340 rfl ?_
  refine k_iconst C (pc := 342) (v := (1 : Int32)) d_law_342 rfl ?_
  refine k_iadd C (pc := 343) d_law_343 ?_
  refine k_sld C (pc := 344) hX hbl hbA (lw_hin hi hL 1 (by decide)) d_law_344 ?_
  refine k_aload_n C 0 (pc := 345) d_law_345 rfl rfl ?_
  refine k_iload C 4 (pc := 346) d_law_346 rfl ?_
  refine k_iconst C (pc := 348) (v := (2 : Int32)) d_law_348 rfl ?_
  refine k_iadd C (pc := 349) d_law_349 ?_
  refine k_sld C (pc := 350) hX hbl hbA (lw_hin hi hL 2 (by decide)) d_law_350 ?_
  refine k_aload_n C 3 (pc := 351) d_law_351 rfl rfl ?_
  refine kx_onL C (pc := 352) (ky_runS C hE (As := [.ref (h 0), .int (xs (nI (6 * i) + (1 : Int32)).toNatClampNeg), .int (xs (nI (6 * i) + (2 : Int32)).toNatClampNeg), .ref o]) (rest := []) (wl_paragraph l D cA h ab ac ar hst (xs (nI (6 * i) + (1 : Int32)).toNatClampNeg) (xs (nI (6 * i) + (2 : Int32)).toNatClampNeg) hI o f) (ky_cw C tYL_paragraph tW_4_0 tW_1_0 tW_4_1 okL_paragraph rfl rfl ⟨Nat.le_of_ble_eq_true rfl, Nat.le_of_ble_eq_true rfl⟩) rfl rfl (Nat.le_of_ble_eq_true rfl) d_law_352 ⟨hcl 2 (by decide), hsl 12 (by decide)⟩) (fun v w1 h_ => by obtain ⟨r, rfl, -, w2, f2, rfl, h1, -⟩ := h_; rw [List.map_append, List.map_append, h1.ad, hI.ad]; rfl) (fun E w1 h_ => h_.elim) (fun E w1 hx => hx.elim) (fun v w1 hv => ?_)
  obtain ⟨k1, rfl, e1, w2, f2, rfl, hI1, ho⟩ := hv
  refine k_eq (pc := 355) (ws' := ((w2 ++ [(o, .inl (cA 5, 1, .inr (.inl f2)))]) ++ wM)) (st' := [.int k1]) rfl rfl rfl ?_
  refine k_widen (k := 2000 + 8 * i + 8) (n := 100000 + 64 * i + 64) (by omega) (by omega) ?_
  refine k_istore C (pc := 355) d_law_355 (Nat.lt_of_lt_of_le (Nat.lt_succ_self _) (Nat.le_of_ble_eq_true rfl)) (lv' := [(5, .int k1), (0, .ref b), (1, .ref (h 0)), (2, .ref (hm 0)), (3, .ref o), (4, .int (nI (6 * i)))]) rfl ?_
  refine k_aload_n C 3 (pc := 357) d_law_357 rfl rfl ?_
  refine k_aload_n C 1 (pc := 358) d_law_358 rfl rfl ?_
  refine k_iload C 5 (pc := 359) d_law_359 rfl ?_
  refine k_iconst C (pc := 361) (v := (1 : Int32)) d_law_361 rfl ?_
  refine k_iadd C (pc := 362) d_law_362 ?_
  refine k_sld C (pc := 363) hX hbl hbA (lw_hin hi hL 1 (by decide)) d_law_363 ?_
  refine k_aload_n C 1 (pc := 364) d_law_364 rfl rfl ?_
  refine k_iload C 5 (pc := 365) d_law_365 rfl ?_
  refine k_iconst C (pc := 367) (v := (2 : Int32)) d_law_367 rfl ?_
  refine k_iadd C (pc := 368) d_law_368 ?_
  refine k_sld C (pc := 369) hX hbl hbA (lw_hin hi hL 2 (by decide)) d_law_369 ?_
  refine k_onR C (pc := 370) (k_runV C (As := [.int (xs (nI (6 * i) + (1 : Int32)).toNatClampNeg), .int (xs (nI (6 * i) + (2 : Int32)).toNatClampNeg)]) (rest := []) (ci := 7) (q0 := 0) (mi_paragraph l D cA hm rH rL rC rP r1 r2 r3 (xs (nI (6 * i) + (1 : Int32)).toNatClampNeg) (xs (nI (6 * i) + (2 : Int32)).toNatClampNeg) hI.ok hI.n8 hM) ⟨k_cwB C tW_5_143 tW_5_140 tW_1_8 okX7_paragraph rfl rfl ⟨Nat.le_of_ble_eq_true rfl, Nat.le_of_ble_eq_true rfl⟩, C.w tW_5_141, C.w tW_5_142⟩ (by rw [hwM]; rfl) rfl rfl rfl rfl (Nat.le_of_ble_eq_true rfl) d_law_370 ⟨hcl 8 (by decide), hsl 64 (by decide)⟩) (fun v w4 hv => ?_)
  obtain ⟨x2, rfl, e2, S1, hN, hM1⟩ := hv
  have hI2 := hI1.near hN
  refine k_eq (pc := 373) (ws' := ((w2 ++ [(o, .inl (cA 5, 1, .inr (.inl f2)))]) ++ w4)) (st' := [.int x2]) rfl rfl rfl ?_
  refine k_widen (k := 2000 + 8 * i + 8) (n := 100000 + 64 * i + 64) (by omega) (by omega) ?_
  refine k_istore C (pc := 373) d_law_373 (Nat.lt_of_lt_of_le (Nat.lt_succ_self _) (Nat.le_of_ble_eq_true rfl)) (lv' := [(6, .int x2), (5, .int k1), (0, .ref b), (1, .ref (h 0)), (2, .ref (hm 0)), (3, .ref o), (4, .int (nI (6 * i)))]) rfl ?_
  refine k_aload_n C 4 (pc := 375) d_law_375 rfl rfl ?_
  obtain ⟨fsM1, tM1, hwM1⟩ := hM1.hd
  refine k_onR C (pc := 376) (k_runV C (As := []) (rest := []) (ci := 7) (q0 := 0) (mi_thrown l D cA hm rH rL rC rP r1 r2 r3 hI2.ok hI2.n8 hM1) ⟨k_cwB C tW_5_43 tW_5_40 tW_1_8 okX7_thrown rfl rfl ⟨Nat.le_of_ble_eq_true rfl, Nat.le_of_ble_eq_true rfl⟩, C.w tW_5_41, C.w tW_5_42⟩ (by rw [hwM1]; rfl) rfl rfl rfl rfl (Nat.le_of_ble_eq_true rfl) d_law_376 ⟨hcl 8 (by decide), hsl 64 (by decide)⟩) (fun v w4 hv => ?_)
  obtain ⟨t1, rfl, e3, hM2⟩ := hv
  refine k_eq (pc := 379) (ws' := ((w2 ++ [(o, .inl (cA 5, 1, .inr (.inl f2)))]) ++ w4)) (st' := [.int t1]) rfl rfl rfl ?_
  refine k_widen (k := 2000 + 8 * i + 8) (n := 100000 + 64 * i + 64) (by omega) (by omega) ?_
  refine k_iload C 1 (pc := 379) d_law_379 rfl ?_
  refine k_icmp_eq C (pc := 381) (tgt := 386) d_law_381 (by decide) (fun _ => ?_) (fun c_ => absurd (e3.trans e1.symm) c_)
  refine k_iload C 1 (pc := 386) d_law_386 rfl ?_
  have T2 : lwK p l e s m below meth c D b Q (2000 + 8 * i + 8) (100000 + 64 * i + 64) ((w2 ++ [(o, .inl (cA 5, 1, .inr (.inl f2)))]) ++ w4) 403 [(6, .int x2), (5, .int k1), (0, .ref b), (1, .ref (h 0)), (2, .ref (hm 0)), (3, .ref o), (4, .int (nI (6 * i)))] [] := by
    refine k_goto C (pc := 403) (tgt := 1412) d_law_403 (by decide) ?_
    refine k_lv (pc := 1412) [2, 3, 4, 5, 6] (lv' := [(0, .ref b), (1, .ref (h 0)), (2, .ref (hm 0)), (3, .ref o), (4, .int (nI (6 * i)))]) rfl ?_
    exact nx _ S1 _ _ _ hI2 hM2
  refine k_if_ne C (pc := 388) (tgt := 403) d_law_388 (by decide) (fun _ => T2) (fun c_ => ?_)
  refine k_aload_n C 5 (pc := 391) d_law_391 rfl rfl ?_
  refine k_iconst C (pc := 392) (v := (0 : Int32)) d_law_392 rfl ?_
  refine k_lald C (pc := 393) w2.length (cc_get2 _ _ _) (vp_in_nI (n := 0) (by decide) (by decide)) d_law_393 ?_
  refine k_iload C 0 (pc := 394) d_law_394 rfl ?_
  have hv : f2 0 = x2.toInt64 := (ho (e1.symm.trans c_)).trans (congrArg Int32.toInt64 e2).symm
  refine k_i2l C (pc := 396) (v := x2.toInt64) d_law_396 rfl ?_
  refine k_lcmp C (pc := 397) d_law_397 ?_
  have hz : lg_cmp (f2 (0 : Int32).toNatClampNeg) x2.toInt64 = 0 := by
    show lg_cmp (f2 0) _ = 0
    rw [hv]
    exact lg_self _
  exact k_if_eq C (pc := 398) (tgt := 403) d_law_398 (by decide) (fun _ => T2) (fun c_ => absurd hz c_)
theorem d_law_406 : decode code 406 = .ok (.aload_n 1, 1) := by decide +kernel
theorem d_law_407 : decode code 407 = .ok (.aload_n 0, 1) := by decide +kernel
theorem d_law_408 : decode code 408 = .ok (.iload 4, 2) := by decide +kernel
theorem d_law_410 : decode code 410 = .ok (.iconst 1, 1) := by decide +kernel
theorem d_law_411 : decode code 411 = .ok (.iadd, 1) := by decide +kernel
theorem d_law_412 : decode code 412 = .ok (.iaload, 1) := by decide +kernel
theorem d_law_413 : decode code 413 = .ok (.aload_n 0, 1) := by decide +kernel
theorem d_law_414 : decode code 414 = .ok (.iload 4, 2) := by decide +kernel
theorem d_law_416 : decode code 416 = .ok (.iconst 2, 1) := by decide +kernel
theorem d_law_417 : decode code 417 = .ok (.iadd, 1) := by decide +kernel
theorem d_law_418 : decode code 418 = .ok (.iaload, 1) := by decide +kernel
theorem d_law_419 : decode code 419 = .ok (.aload_n 3, 1) := by decide +kernel
theorem d_law_420 : decode code 420 = .ok (.invokestatic 98, 3) := by decide +kernel
theorem d_law_423 : decode code 423 = .ok (.istore 5, 2) := by decide +kernel
theorem d_law_425 : decode code 425 = .ok (.aload_n 2, 1) := by decide +kernel
theorem d_law_426 : decode code 426 = .ok (.aload_n 0, 1) := by decide +kernel
theorem d_law_427 : decode code 427 = .ok (.iload 4, 2) := by decide +kernel
theorem d_law_429 : decode code 429 = .ok (.iconst 1, 1) := by decide +kernel
theorem d_law_430 : decode code 430 = .ok (.iadd, 1) := by decide +kernel
theorem d_law_431 : decode code 431 = .ok (.iaload, 1) := by decide +kernel
theorem d_law_432 : decode code 432 = .ok (.aload_n 0, 1) := by decide +kernel
theorem d_law_433 : decode code 433 = .ok (.iload 4, 2) := by decide +kernel
theorem d_law_435 : decode code 435 = .ok (.iconst 2, 1) := by decide +kernel
theorem d_law_436 : decode code 436 = .ok (.iadd, 1) := by decide +kernel
theorem d_law_437 : decode code 437 = .ok (.iaload, 1) := by decide +kernel
theorem d_law_438 : decode code 438 = .ok (.invokevirtual 100, 3) := by decide +kernel
theorem d_law_441 : decode code 441 = .ok (.istore 6, 2) := by decide +kernel
theorem d_law_443 : decode code 443 = .ok (.aload_n 2, 1) := by decide +kernel
theorem d_law_444 : decode code 444 = .ok (.invokevirtual 83, 3) := by decide +kernel
theorem d_law_447 : decode code 447 = .ok (.iload 5, 2) := by decide +kernel
theorem d_law_449 : decode code 449 = .ok (.if_icmp .eq 5, 3) := by decide +kernel
theorem d_law_454 : decode code 454 = .ok (.iload 5, 2) := by decide +kernel
theorem d_law_456 : decode code 456 = .ok (.ifCond .ne 15, 3) := by decide +kernel
theorem d_law_459 : decode code 459 = .ok (.aload_n 3, 1) := by decide +kernel
theorem d_law_460 : decode code 460 = .ok (.iconst 0, 1) := by decide +kernel
theorem d_law_461 : decode code 461 = .ok (.laload, 1) := by decide +kernel
theorem d_law_462 : decode code 462 = .ok (.iload 6, 2) := by decide +kernel
theorem d_law_464 : decode code 464 = .ok (.i2l, 1) := by decide +kernel
theorem d_law_465 : decode code 465 = .ok (.lcmp, 1) := by decide +kernel
theorem d_law_466 : decode code 466 = .ok (.ifCond .eq 5, 3) := by decide +kernel
theorem d_law_471 : decode code 471 = .ok (.goto 941, 3) := by decide +kernel
set_option maxHeartbeats 1000000 in
theorem law_c5 {p : Program} {l : Launch} {e : Env} {s : State} {m : MethodId} {below : List Frame} {meth : Method} {c : Code} {D : va_G} {cA : Nat → ClassId} {b L : Nat} {xs : Nat → Int32} (C : Cx p s m meth c code 9 #[Value.ref b] lw_tbl "WidowWatchLaw" D cA (fun q => s.heap.size ≤ q)) (hE : EvY D cA (fun q => s.heap.size ≤ q) s s.heap) (hst : l.stackTraces = false) (hX : va_X b L xs s s.heap) (hbl : b < s.heap.size) (o : Nat) (h ab ac ar hm rH rL rC rP r1 r2 r3 : Nat → Nat) {Q : State → Prop} (i : Nat) (hi : 6 * i + 6 ≤ L) (hL : L ≤ 3072) {f : Nat → Int64} {S : ivS} {th : Int32} {w wM : va_W} (hI : ivI cA h ab ac ar S false w) (hM : imI cA hm rH rL rC rP r1 r2 r3 S th wM) (nx : ∀ (f : Nat → Int64) (S : ivS) (th : Int32) (w wM : va_W), ivI cA h ab ac ar S false w → imI cA hm rH rL rC rP r1 r2 r3 S th wM → lwK p l e s m below meth c D b Q (2000 + 8 * i + 8) (100000 + 64 * i + 64) ((w ++ [(o, .inl (cA 5, 1, .inr (.inl f)))]) ++ wM) 1412 [(0, .ref b), (1, .ref (h 0)), (2, .ref (hm 0)), (3, .ref o), (4, .int (nI (6 * i)))] []) : lwK p l e s m below meth c D b Q (2000 + 8 * i) (100000 + 64 * i) ((w ++ [(o, .inl (cA 5, 1, .inr (.inl f)))]) ++ wM) 406 [(0, .ref b), (1, .ref (h 0)), (2, .ref (hm 0)), (3, .ref o), (4, .int (nI (6 * i)))] [] := by
  have hbA : ¬ (fun q => s.heap.size ≤ q) b := Nat.not_le.mpr hbl
  have hcl : ∀ j, j ≤ 8 → 2000 + 8 * i + j ≤ room_1.cells := fun j hj => by
    show _ ≤ 601024
    omega
  have hsl : ∀ j, j ≤ 64 → 100000 + 64 * i + j ≤ room_1.slots := fun j hj => by
    show _ ≤ 7293034
    omega
  obtain ⟨fs, t, hw⟩ := hI.hd
  obtain ⟨fsM, tM, hwM⟩ := hM.hd
  refine k_aload_n C 1 (pc := 406) d_law_406 rfl rfl ?_
  refine k_aload_n C 0 (pc := 407) d_law_407 rfl rfl ?_
  refine k_iload C 4 (pc := 408) d_law_408 rfl ?_
  refine k_iconst C (pc := 410) (v := (1 : Int32)) d_law_410 rfl ?_
  refine k_iadd C (pc := 411) d_law_411 ?_
  refine k_sld C (pc := 412) hX hbl hbA (lw_hin hi hL 1 (by decide)) d_law_412 ?_
  refine k_aload_n C 0 (pc := 413) d_law_413 rfl rfl ?_
  refine k_iload C 4 (pc := 414) d_law_414 rfl ?_
  refine k_iconst C (pc := 416) (v := (2 : Int32)) d_law_416 rfl ?_
  refine k_iadd C (pc := 417) d_law_417 ?_
  refine k_sld C (pc := 418) hX hbl hbA (lw_hin hi hL 2 (by decide)) d_law_418 ?_
  refine k_aload_n C 3 (pc := 419) d_law_419 rfl rfl ?_
  refine kx_onL C (pc := 420) (ky_runS C hE (As := [.ref (h 0), .int (xs (nI (6 * i) + (1 : Int32)).toNatClampNeg), .int (xs (nI (6 * i) + (2 : Int32)).toNatClampNeg), .ref o]) (rest := []) (wl_word l D cA h ab ac ar hst (xs (nI (6 * i) + (1 : Int32)).toNatClampNeg) (xs (nI (6 * i) + (2 : Int32)).toNatClampNeg) hI o f) (ky_cw C tYL_word tW_4_28 tW_1_0 tW_4_29 okL_word rfl rfl ⟨Nat.le_of_ble_eq_true rfl, Nat.le_of_ble_eq_true rfl⟩) rfl rfl (Nat.le_of_ble_eq_true rfl) d_law_420 ⟨hcl 2 (by decide), hsl 12 (by decide)⟩) (fun v w1 h_ => by obtain ⟨r, rfl, -, w2, f2, rfl, h1, -⟩ := h_; rw [List.map_append, List.map_append, h1.ad, hI.ad]; rfl) (fun E w1 h_ => h_.elim) (fun E w1 hx => hx.elim) (fun v w1 hv => ?_)
  obtain ⟨k1, rfl, e1, w2, f2, rfl, hI1, ho⟩ := hv
  refine k_eq (pc := 423) (ws' := ((w2 ++ [(o, .inl (cA 5, 1, .inr (.inl f2)))]) ++ wM)) (st' := [.int k1]) rfl rfl rfl ?_
  refine k_widen (k := 2000 + 8 * i + 8) (n := 100000 + 64 * i + 64) (by omega) (by omega) ?_
  refine k_istore C (pc := 423) d_law_423 (Nat.lt_of_lt_of_le (Nat.lt_succ_self _) (Nat.le_of_ble_eq_true rfl)) (lv' := [(5, .int k1), (0, .ref b), (1, .ref (h 0)), (2, .ref (hm 0)), (3, .ref o), (4, .int (nI (6 * i)))]) rfl ?_
  refine k_aload_n C 3 (pc := 425) d_law_425 rfl rfl ?_
  refine k_aload_n C 1 (pc := 426) d_law_426 rfl rfl ?_
  refine k_iload C 5 (pc := 427) d_law_427 rfl ?_
  refine k_iconst C (pc := 429) (v := (1 : Int32)) d_law_429 rfl ?_
  refine k_iadd C (pc := 430) d_law_430 ?_
  refine k_sld C (pc := 431) hX hbl hbA (lw_hin hi hL 1 (by decide)) d_law_431 ?_
  refine k_aload_n C 1 (pc := 432) d_law_432 rfl rfl ?_
  refine k_iload C 5 (pc := 433) d_law_433 rfl ?_
  refine k_iconst C (pc := 435) (v := (2 : Int32)) d_law_435 rfl ?_
  refine k_iadd C (pc := 436) d_law_436 ?_
  refine k_sld C (pc := 437) hX hbl hbA (lw_hin hi hL 2 (by decide)) d_law_437 ?_
  refine k_onR C (pc := 438) (k_runV C (As := [.int (xs (nI (6 * i) + (1 : Int32)).toNatClampNeg), .int (xs (nI (6 * i) + (2 : Int32)).toNatClampNeg)]) (rest := []) (ci := 7) (q0 := 0) (mi_word l D cA hm rH rL rC rP r1 r2 r3 (xs (nI (6 * i) + (1 : Int32)).toNatClampNeg) (xs (nI (6 * i) + (2 : Int32)).toNatClampNeg) hI.ok hI.n8 hM) ⟨k_cwB C tW_5_227 tW_5_224 tW_1_8 okX7_word rfl rfl ⟨Nat.le_of_ble_eq_true rfl, Nat.le_of_ble_eq_true rfl⟩, C.w tW_5_225, C.w tW_5_226⟩ (by rw [hwM]; rfl) rfl rfl rfl rfl (Nat.le_of_ble_eq_true rfl) d_law_438 ⟨hcl 8 (by decide), hsl 64 (by decide)⟩) (fun v w4 hv => ?_)
  obtain ⟨x2, rfl, e2, S1, hN, hM1⟩ := hv
  have hI2 := hI1.near hN
  refine k_eq (pc := 441) (ws' := ((w2 ++ [(o, .inl (cA 5, 1, .inr (.inl f2)))]) ++ w4)) (st' := [.int x2]) rfl rfl rfl ?_
  refine k_widen (k := 2000 + 8 * i + 8) (n := 100000 + 64 * i + 64) (by omega) (by omega) ?_
  refine k_istore C (pc := 441) d_law_441 (Nat.lt_of_lt_of_le (Nat.lt_succ_self _) (Nat.le_of_ble_eq_true rfl)) (lv' := [(6, .int x2), (5, .int k1), (0, .ref b), (1, .ref (h 0)), (2, .ref (hm 0)), (3, .ref o), (4, .int (nI (6 * i)))]) rfl ?_
  refine k_aload_n C 4 (pc := 443) d_law_443 rfl rfl ?_
  obtain ⟨fsM1, tM1, hwM1⟩ := hM1.hd
  refine k_onR C (pc := 444) (k_runV C (As := []) (rest := []) (ci := 7) (q0 := 0) (mi_thrown l D cA hm rH rL rC rP r1 r2 r3 hI2.ok hI2.n8 hM1) ⟨k_cwB C tW_5_43 tW_5_40 tW_1_8 okX7_thrown rfl rfl ⟨Nat.le_of_ble_eq_true rfl, Nat.le_of_ble_eq_true rfl⟩, C.w tW_5_41, C.w tW_5_42⟩ (by rw [hwM1]; rfl) rfl rfl rfl rfl (Nat.le_of_ble_eq_true rfl) d_law_444 ⟨hcl 8 (by decide), hsl 64 (by decide)⟩) (fun v w4 hv => ?_)
  obtain ⟨t1, rfl, e3, hM2⟩ := hv
  refine k_eq (pc := 447) (ws' := ((w2 ++ [(o, .inl (cA 5, 1, .inr (.inl f2)))]) ++ w4)) (st' := [.int t1]) rfl rfl rfl ?_
  refine k_widen (k := 2000 + 8 * i + 8) (n := 100000 + 64 * i + 64) (by omega) (by omega) ?_
  refine k_iload C 1 (pc := 447) d_law_447 rfl ?_
  refine k_icmp_eq C (pc := 449) (tgt := 454) d_law_449 (by decide) (fun _ => ?_) (fun c_ => absurd (e3.trans e1.symm) c_)
  refine k_iload C 1 (pc := 454) d_law_454 rfl ?_
  have T2 : lwK p l e s m below meth c D b Q (2000 + 8 * i + 8) (100000 + 64 * i + 64) ((w2 ++ [(o, .inl (cA 5, 1, .inr (.inl f2)))]) ++ w4) 471 [(6, .int x2), (5, .int k1), (0, .ref b), (1, .ref (h 0)), (2, .ref (hm 0)), (3, .ref o), (4, .int (nI (6 * i)))] [] := by
    refine k_goto C (pc := 471) (tgt := 1412) d_law_471 (by decide) ?_
    refine k_lv (pc := 1412) [2, 3, 4, 5, 6] (lv' := [(0, .ref b), (1, .ref (h 0)), (2, .ref (hm 0)), (3, .ref o), (4, .int (nI (6 * i)))]) rfl ?_
    exact nx _ S1 _ _ _ hI2 hM2
  refine k_if_ne C (pc := 456) (tgt := 471) d_law_456 (by decide) (fun _ => T2) (fun c_ => ?_)
  refine k_aload_n C 5 (pc := 459) d_law_459 rfl rfl ?_
  refine k_iconst C (pc := 460) (v := (0 : Int32)) d_law_460 rfl ?_
  refine k_lald C (pc := 461) w2.length (cc_get2 _ _ _) (vp_in_nI (n := 0) (by decide) (by decide)) d_law_461 ?_
  refine k_iload C 0 (pc := 462) d_law_462 rfl ?_
  have hv : f2 0 = x2.toInt64 := (ho (e1.symm.trans c_)).trans (congrArg Int32.toInt64 e2).symm
  refine k_i2l C (pc := 464) (v := x2.toInt64) d_law_464 rfl ?_
  refine k_lcmp C (pc := 465) d_law_465 ?_
  have hz : lg_cmp (f2 (0 : Int32).toNatClampNeg) x2.toInt64 = 0 := by
    show lg_cmp (f2 0) _ = 0
    rw [hv]
    exact lg_self _
  exact k_if_eq C (pc := 466) (tgt := 471) d_law_466 (by decide) (fun _ => T2) (fun c_ => absurd hz c_)
theorem d_law_474 : decode code 474 = .ok (.aload_n 1, 1) := by decide +kernel
theorem d_law_475 : decode code 475 = .ok (.aload_n 0, 1) := by decide +kernel
theorem d_law_476 : decode code 476 = .ok (.iload 4, 2) := by decide +kernel
theorem d_law_478 : decode code 478 = .ok (.iconst 1, 1) := by decide +kernel
theorem d_law_479 : decode code 479 = .ok (.iadd, 1) := by decide +kernel
theorem d_law_480 : decode code 480 = .ok (.iaload, 1) := by decide +kernel
theorem d_law_481 : decode code 481 = .ok (.aload_n 0, 1) := by decide +kernel
theorem d_law_482 : decode code 482 = .ok (.iload 4, 2) := by decide +kernel
theorem d_law_484 : decode code 484 = .ok (.iconst 2, 1) := by decide +kernel
theorem d_law_485 : decode code 485 = .ok (.iadd, 1) := by decide +kernel
theorem d_law_486 : decode code 486 = .ok (.iaload, 1) := by decide +kernel
theorem d_law_487 : decode code 487 = .ok (.aload_n 0, 1) := by decide +kernel
theorem d_law_488 : decode code 488 = .ok (.iload 4, 2) := by decide +kernel
theorem d_law_490 : decode code 490 = .ok (.iconst 3, 1) := by decide +kernel
theorem d_law_491 : decode code 491 = .ok (.iadd, 1) := by decide +kernel
theorem d_law_492 : decode code 492 = .ok (.iaload, 1) := by decide +kernel
theorem d_law_493 : decode code 493 = .ok (.aload_n 3, 1) := by decide +kernel
theorem d_law_494 : decode code 494 = .ok (.invokestatic 101, 3) := by decide +kernel
theorem d_law_497 : decode code 497 = .ok (.istore 5, 2) := by decide +kernel
theorem d_law_499 : decode code 499 = .ok (.aload_n 2, 1) := by decide +kernel
theorem d_law_500 : decode code 500 = .ok (.aload_n 0, 1) := by decide +kernel
theorem d_law_501 : decode code 501 = .ok (.iload 4, 2) := by decide +kernel
theorem d_law_503 : decode code 503 = .ok (.iconst 1, 1) := by decide +kernel
theorem d_law_504 : decode code 504 = .ok (.iadd, 1) := by decide +kernel
theorem d_law_505 : decode code 505 = .ok (.iaload, 1) := by decide +kernel
theorem d_law_506 : decode code 506 = .ok (.aload_n 0, 1) := by decide +kernel
theorem d_law_507 : decode code 507 = .ok (.iload 4, 2) := by decide +kernel
theorem d_law_509 : decode code 509 = .ok (.iconst 2, 1) := by decide +kernel
theorem d_law_510 : decode code 510 = .ok (.iadd, 1) := by decide +kernel
theorem d_law_511 : decode code 511 = .ok (.iaload, 1) := by decide +kernel
theorem d_law_512 : decode code 512 = .ok (.aload_n 0, 1) := by decide +kernel
theorem d_law_513 : decode code 513 = .ok (.iload 4, 2) := by decide +kernel
theorem d_law_515 : decode code 515 = .ok (.iconst 3, 1) := by decide +kernel
theorem d_law_516 : decode code 516 = .ok (.iadd, 1) := by decide +kernel
theorem d_law_517 : decode code 517 = .ok (.iaload, 1) := by decide +kernel
theorem d_law_518 : decode code 518 = .ok (.invokevirtual 104, 3) := by decide +kernel
theorem d_law_521 : decode code 521 = .ok (.istore 6, 2) := by decide +kernel
theorem d_law_523 : decode code 523 = .ok (.aload_n 2, 1) := by decide +kernel
theorem d_law_524 : decode code 524 = .ok (.invokevirtual 83, 3) := by decide +kernel
theorem d_law_527 : decode code 527 = .ok (.iload 5, 2) := by decide +kernel
theorem d_law_529 : decode code 529 = .ok (.if_icmp .eq 5, 3) := by decide +kernel
theorem d_law_534 : decode code 534 = .ok (.iload 5, 2) := by decide +kernel
theorem d_law_536 : decode code 536 = .ok (.ifCond .ne 15, 3) := by decide +kernel
theorem d_law_539 : decode code 539 = .ok (.aload_n 3, 1) := by decide +kernel
theorem d_law_540 : decode code 540 = .ok (.iconst 0, 1) := by decide +kernel
theorem d_law_541 : decode code 541 = .ok (.laload, 1) := by decide +kernel
theorem d_law_542 : decode code 542 = .ok (.iload 6, 2) := by decide +kernel
theorem d_law_544 : decode code 544 = .ok (.i2l, 1) := by decide +kernel
theorem d_law_545 : decode code 545 = .ok (.lcmp, 1) := by decide +kernel
theorem d_law_546 : decode code 546 = .ok (.ifCond .eq 5, 3) := by decide +kernel
theorem d_law_551 : decode code 551 = .ok (.goto 861, 3) := by decide +kernel
set_option maxHeartbeats 1000000 in
theorem law_c6 {p : Program} {l : Launch} {e : Env} {s : State} {m : MethodId} {below : List Frame} {meth : Method} {c : Code} {D : va_G} {cA : Nat → ClassId} {b L : Nat} {xs : Nat → Int32} (C : Cx p s m meth c code 9 #[Value.ref b] lw_tbl "WidowWatchLaw" D cA (fun q => s.heap.size ≤ q)) (hE : EvY D cA (fun q => s.heap.size ≤ q) s s.heap) (hst : l.stackTraces = false) (hX : va_X b L xs s s.heap) (hbl : b < s.heap.size) (o : Nat) (h ab ac ar hm rH rL rC rP r1 r2 r3 : Nat → Nat) {Q : State → Prop} (i : Nat) (hi : 6 * i + 6 ≤ L) (hL : L ≤ 3072) {f : Nat → Int64} {S : ivS} {th : Int32} {w wM : va_W} (hI : ivI cA h ab ac ar S false w) (hM : imI cA hm rH rL rC rP r1 r2 r3 S th wM) (nx : ∀ (f : Nat → Int64) (S : ivS) (th : Int32) (w wM : va_W), ivI cA h ab ac ar S false w → imI cA hm rH rL rC rP r1 r2 r3 S th wM → lwK p l e s m below meth c D b Q (2000 + 8 * i + 8) (100000 + 64 * i + 64) ((w ++ [(o, .inl (cA 5, 1, .inr (.inl f)))]) ++ wM) 1412 [(0, .ref b), (1, .ref (h 0)), (2, .ref (hm 0)), (3, .ref o), (4, .int (nI (6 * i)))] []) : lwK p l e s m below meth c D b Q (2000 + 8 * i) (100000 + 64 * i) ((w ++ [(o, .inl (cA 5, 1, .inr (.inl f)))]) ++ wM) 474 [(0, .ref b), (1, .ref (h 0)), (2, .ref (hm 0)), (3, .ref o), (4, .int (nI (6 * i)))] [] := by
  have hbA : ¬ (fun q => s.heap.size ≤ q) b := Nat.not_le.mpr hbl
  have hcl : ∀ j, j ≤ 8 → 2000 + 8 * i + j ≤ room_1.cells := fun j hj => by
    show _ ≤ 601024
    omega
  have hsl : ∀ j, j ≤ 64 → 100000 + 64 * i + j ≤ room_1.slots := fun j hj => by
    show _ ≤ 7293034
    omega
  obtain ⟨fs, t, hw⟩ := hI.hd
  obtain ⟨fsM, tM, hwM⟩ := hM.hd
  refine k_aload_n C 1 (pc := 474) d_law_474 rfl rfl ?_
  refine k_aload_n C 0 (pc := 475) d_law_475 rfl rfl ?_
  refine k_iload C 4 (pc := 476) d_law_476 rfl ?_
  refine k_iconst C (pc := 478) (v := (1 : Int32)) d_law_478 rfl ?_
  refine k_iadd C (pc := 479) d_law_479 ?_
  refine k_sld C (pc := 480) hX hbl hbA (lw_hin hi hL 1 (by decide)) d_law_480 ?_
  refine k_aload_n C 0 (pc := 481) d_law_481 rfl rfl ?_
  refine k_iload C 4 (pc := 482) d_law_482 rfl ?_
  refine k_iconst C (pc := 484) (v := (2 : Int32)) d_law_484 rfl ?_
  refine k_iadd C (pc := 485) d_law_485 ?_
  refine k_sld C (pc := 486) hX hbl hbA (lw_hin hi hL 2 (by decide)) d_law_486 ?_
  refine k_aload_n C 0 (pc := 487) d_law_487 rfl rfl ?_
  refine k_iload C 4 (pc := 488) d_law_488 rfl ?_
  refine k_iconst C (pc := 490) (v := (3 : Int32)) d_law_490 rfl ?_
  refine k_iadd C (pc := 491) d_law_491 ?_
  refine k_sld C (pc := 492) hX hbl hbA (lw_hin hi hL 3 (by decide)) d_law_492 ?_
  refine k_aload_n C 3 (pc := 493) d_law_493 rfl rfl ?_
  refine kx_onL C (pc := 494) (ky_runS C hE (As := [.ref (h 0), .int (xs (nI (6 * i) + (1 : Int32)).toNatClampNeg), .int (xs (nI (6 * i) + (2 : Int32)).toNatClampNeg), .int (xs (nI (6 * i) + (3 : Int32)).toNatClampNeg), .ref o]) (rest := []) (wl_lineLength l D cA h ab ac ar hst (xs (nI (6 * i) + (1 : Int32)).toNatClampNeg) (xs (nI (6 * i) + (2 : Int32)).toNatClampNeg) (xs (nI (6 * i) + (3 : Int32)).toNatClampNeg) hI o f) (ky_cw C tYL_lineLength tW_4_53 tW_1_0 tW_4_54 okL_lineLength rfl rfl ⟨Nat.le_of_ble_eq_true rfl, Nat.le_of_ble_eq_true rfl⟩) rfl rfl (Nat.le_of_ble_eq_true rfl) d_law_494 ⟨hcl 2 (by decide), hsl 12 (by decide)⟩) (fun v w1 h_ => by obtain ⟨r, rfl, -, w2, f2, rfl, h1, -⟩ := h_; rw [List.map_append, List.map_append, h1.ad, hI.ad]; rfl) (fun E w1 h_ => h_.elim) (fun E w1 hx => hx.elim) (fun v w1 hv => ?_)
  obtain ⟨k1, rfl, e1, w2, f2, rfl, hI1, ho⟩ := hv
  refine k_eq (pc := 497) (ws' := ((w2 ++ [(o, .inl (cA 5, 1, .inr (.inl f2)))]) ++ wM)) (st' := [.int k1]) rfl rfl rfl ?_
  refine k_widen (k := 2000 + 8 * i + 8) (n := 100000 + 64 * i + 64) (by omega) (by omega) ?_
  refine k_istore C (pc := 497) d_law_497 (Nat.lt_of_lt_of_le (Nat.lt_succ_self _) (Nat.le_of_ble_eq_true rfl)) (lv' := [(5, .int k1), (0, .ref b), (1, .ref (h 0)), (2, .ref (hm 0)), (3, .ref o), (4, .int (nI (6 * i)))]) rfl ?_
  refine k_aload_n C 3 (pc := 499) d_law_499 rfl rfl ?_
  refine k_aload_n C 1 (pc := 500) d_law_500 rfl rfl ?_
  refine k_iload C 5 (pc := 501) d_law_501 rfl ?_
  refine k_iconst C (pc := 503) (v := (1 : Int32)) d_law_503 rfl ?_
  refine k_iadd C (pc := 504) d_law_504 ?_
  refine k_sld C (pc := 505) hX hbl hbA (lw_hin hi hL 1 (by decide)) d_law_505 ?_
  refine k_aload_n C 1 (pc := 506) d_law_506 rfl rfl ?_
  refine k_iload C 5 (pc := 507) d_law_507 rfl ?_
  refine k_iconst C (pc := 509) (v := (2 : Int32)) d_law_509 rfl ?_
  refine k_iadd C (pc := 510) d_law_510 ?_
  refine k_sld C (pc := 511) hX hbl hbA (lw_hin hi hL 2 (by decide)) d_law_511 ?_
  refine k_aload_n C 1 (pc := 512) d_law_512 rfl rfl ?_
  refine k_iload C 5 (pc := 513) d_law_513 rfl ?_
  refine k_iconst C (pc := 515) (v := (3 : Int32)) d_law_515 rfl ?_
  refine k_iadd C (pc := 516) d_law_516 ?_
  refine k_sld C (pc := 517) hX hbl hbA (lw_hin hi hL 3 (by decide)) d_law_517 ?_
  refine k_onR C (pc := 518) (k_runV C (As := [.int (xs (nI (6 * i) + (1 : Int32)).toNatClampNeg), .int (xs (nI (6 * i) + (2 : Int32)).toNatClampNeg), .int (xs (nI (6 * i) + (3 : Int32)).toNatClampNeg)]) (rest := []) (ci := 7) (q0 := 0) (mi_lineLength l D cA hm rH rL rC rP r1 r2 r3 (xs (nI (6 * i) + (1 : Int32)).toNatClampNeg) (xs (nI (6 * i) + (2 : Int32)).toNatClampNeg) (xs (nI (6 * i) + (3 : Int32)).toNatClampNeg) hI.ok hI.n8 hM) ⟨k_cwB C tW_5_231 tW_5_228 tW_1_8 okX7_lineLength rfl rfl ⟨Nat.le_of_ble_eq_true rfl, Nat.le_of_ble_eq_true rfl⟩, C.w tW_5_229, C.w tW_5_230⟩ (by rw [hwM]; rfl) rfl rfl rfl rfl (Nat.le_of_ble_eq_true rfl) d_law_518 ⟨hcl 8 (by decide), hsl 64 (by decide)⟩) (fun v w4 hv => ?_)
  obtain ⟨x2, rfl, e2, S1, hN, hM1⟩ := hv
  have hI2 := hI1.near hN
  refine k_eq (pc := 521) (ws' := ((w2 ++ [(o, .inl (cA 5, 1, .inr (.inl f2)))]) ++ w4)) (st' := [.int x2]) rfl rfl rfl ?_
  refine k_widen (k := 2000 + 8 * i + 8) (n := 100000 + 64 * i + 64) (by omega) (by omega) ?_
  refine k_istore C (pc := 521) d_law_521 (Nat.lt_of_lt_of_le (Nat.lt_succ_self _) (Nat.le_of_ble_eq_true rfl)) (lv' := [(6, .int x2), (5, .int k1), (0, .ref b), (1, .ref (h 0)), (2, .ref (hm 0)), (3, .ref o), (4, .int (nI (6 * i)))]) rfl ?_
  refine k_aload_n C 4 (pc := 523) d_law_523 rfl rfl ?_
  obtain ⟨fsM1, tM1, hwM1⟩ := hM1.hd
  refine k_onR C (pc := 524) (k_runV C (As := []) (rest := []) (ci := 7) (q0 := 0) (mi_thrown l D cA hm rH rL rC rP r1 r2 r3 hI2.ok hI2.n8 hM1) ⟨k_cwB C tW_5_43 tW_5_40 tW_1_8 okX7_thrown rfl rfl ⟨Nat.le_of_ble_eq_true rfl, Nat.le_of_ble_eq_true rfl⟩, C.w tW_5_41, C.w tW_5_42⟩ (by rw [hwM1]; rfl) rfl rfl rfl rfl (Nat.le_of_ble_eq_true rfl) d_law_524 ⟨hcl 8 (by decide), hsl 64 (by decide)⟩) (fun v w4 hv => ?_)
  obtain ⟨t1, rfl, e3, hM2⟩ := hv
  refine k_eq (pc := 527) (ws' := ((w2 ++ [(o, .inl (cA 5, 1, .inr (.inl f2)))]) ++ w4)) (st' := [.int t1]) rfl rfl rfl ?_
  refine k_widen (k := 2000 + 8 * i + 8) (n := 100000 + 64 * i + 64) (by omega) (by omega) ?_
  refine k_iload C 1 (pc := 527) d_law_527 rfl ?_
  refine k_icmp_eq C (pc := 529) (tgt := 534) d_law_529 (by decide) (fun _ => ?_) (fun c_ => absurd (e3.trans e1.symm) c_)
  refine k_iload C 1 (pc := 534) d_law_534 rfl ?_
  have T2 : lwK p l e s m below meth c D b Q (2000 + 8 * i + 8) (100000 + 64 * i + 64) ((w2 ++ [(o, .inl (cA 5, 1, .inr (.inl f2)))]) ++ w4) 551 [(6, .int x2), (5, .int k1), (0, .ref b), (1, .ref (h 0)), (2, .ref (hm 0)), (3, .ref o), (4, .int (nI (6 * i)))] [] := by
    refine k_goto C (pc := 551) (tgt := 1412) d_law_551 (by decide) ?_
    refine k_lv (pc := 1412) [2, 3, 4, 5, 6] (lv' := [(0, .ref b), (1, .ref (h 0)), (2, .ref (hm 0)), (3, .ref o), (4, .int (nI (6 * i)))]) rfl ?_
    exact nx _ S1 _ _ _ hI2 hM2
  refine k_if_ne C (pc := 536) (tgt := 551) d_law_536 (by decide) (fun _ => T2) (fun c_ => ?_)
  refine k_aload_n C 5 (pc := 539) d_law_539 rfl rfl ?_
  refine k_iconst C (pc := 540) (v := (0 : Int32)) d_law_540 rfl ?_
  refine k_lald C (pc := 541) w2.length (cc_get2 _ _ _) (vp_in_nI (n := 0) (by decide) (by decide)) d_law_541 ?_
  refine k_iload C 0 (pc := 542) d_law_542 rfl ?_
  have hv : f2 0 = x2.toInt64 := (ho (e1.symm.trans c_)).trans (congrArg Int32.toInt64 e2).symm
  refine k_i2l C (pc := 544) (v := x2.toInt64) d_law_544 rfl ?_
  refine k_lcmp C (pc := 545) d_law_545 ?_
  have hz : lg_cmp (f2 (0 : Int32).toNatClampNeg) x2.toInt64 = 0 := by
    show lg_cmp (f2 0) _ = 0
    rw [hv]
    exact lg_self _
  exact k_if_eq C (pc := 546) (tgt := 551) d_law_546 (by decide) (fun _ => T2) (fun c_ => absurd hz c_)
theorem d_law_554 : decode code 554 = .ok (.aload_n 1, 1) := by decide +kernel
theorem d_law_555 : decode code 555 = .ok (.aload_n 0, 1) := by decide +kernel
theorem d_law_556 : decode code 556 = .ok (.iload 4, 2) := by decide +kernel
theorem d_law_558 : decode code 558 = .ok (.iconst 1, 1) := by decide +kernel
theorem d_law_559 : decode code 559 = .ok (.iadd, 1) := by decide +kernel
theorem d_law_560 : decode code 560 = .ok (.iaload, 1) := by decide +kernel
theorem d_law_561 : decode code 561 = .ok (.ifCond .eq 7, 3) := by decide +kernel
theorem d_law_564 : decode code 564 = .ok (.iconst 1, 1) := by decide +kernel
theorem d_law_565 : decode code 565 = .ok (.goto 4, 3) := by decide +kernel
theorem d_law_568 : decode code 568 = .ok (.iconst 0, 1) := by decide +kernel
theorem d_law_569 : decode code 569 = .ok (.aload_n 0, 1) := by decide +kernel
theorem d_law_570 : decode code 570 = .ok (.iload 4, 2) := by decide +kernel
theorem d_law_572 : decode code 572 = .ok (.iconst 2, 1) := by decide +kernel
theorem d_law_573 : decode code 573 = .ok (.iadd, 1) := by decide +kernel
theorem d_law_574 : decode code 574 = .ok (.iaload, 1) := by decide +kernel
theorem d_law_575 : decode code 575 = .ok (.aload_n 3, 1) := by decide +kernel
theorem d_law_576 : decode code 576 = .ok (.invokestatic 105, 3) := by decide +kernel
theorem d_law_579 : decode code 579 = .ok (.istore 5, 2) := by decide +kernel
theorem d_law_581 : decode code 581 = .ok (.aload_n 2, 1) := by decide +kernel
theorem d_law_582 : decode code 582 = .ok (.aload_n 0, 1) := by decide +kernel
theorem d_law_583 : decode code 583 = .ok (.iload 4, 2) := by decide +kernel
theorem d_law_585 : decode code 585 = .ok (.iconst 1, 1) := by decide +kernel
theorem d_law_586 : decode code 586 = .ok (.iadd, 1) := by decide +kernel
theorem d_law_587 : decode code 587 = .ok (.iaload, 1) := by decide +kernel
theorem d_law_588 : decode code 588 = .ok (.ifCond .eq 7, 3) := by decide +kernel
theorem d_law_591 : decode code 591 = .ok (.iconst 1, 1) := by decide +kernel
theorem d_law_592 : decode code 592 = .ok (.goto 4, 3) := by decide +kernel
theorem d_law_595 : decode code 595 = .ok (.iconst 0, 1) := by decide +kernel
theorem d_law_596 : decode code 596 = .ok (.aload_n 0, 1) := by decide +kernel
theorem d_law_597 : decode code 597 = .ok (.iload 4, 2) := by decide +kernel
theorem d_law_599 : decode code 599 = .ok (.iconst 2, 1) := by decide +kernel
theorem d_law_600 : decode code 600 = .ok (.iadd, 1) := by decide +kernel
theorem d_law_601 : decode code 601 = .ok (.iaload, 1) := by decide +kernel
theorem d_law_602 : decode code 602 = .ok (.invokevirtual 108, 3) := by decide +kernel
theorem d_law_605 : decode code 605 = .ok (.istore 6, 2) := by decide +kernel
theorem d_law_607 : decode code 607 = .ok (.aload_n 2, 1) := by decide +kernel
theorem d_law_608 : decode code 608 = .ok (.invokevirtual 83, 3) := by decide +kernel
theorem d_law_611 : decode code 611 = .ok (.iload 5, 2) := by decide +kernel
theorem d_law_613 : decode code 613 = .ok (.if_icmp .eq 5, 3) := by decide +kernel
theorem d_law_618 : decode code 618 = .ok (.iload 5, 2) := by decide +kernel
theorem d_law_620 : decode code 620 = .ok (.ifCond .ne 15, 3) := by decide +kernel
theorem d_law_623 : decode code 623 = .ok (.aload_n 3, 1) := by decide +kernel
theorem d_law_624 : decode code 624 = .ok (.iconst 0, 1) := by decide +kernel
theorem d_law_625 : decode code 625 = .ok (.laload, 1) := by decide +kernel
theorem d_law_626 : decode code 626 = .ok (.iload 6, 2) := by decide +kernel
theorem d_law_628 : decode code 628 = .ok (.i2l, 1) := by decide +kernel
theorem d_law_629 : decode code 629 = .ok (.lcmp, 1) := by decide +kernel
theorem d_law_630 : decode code 630 = .ok (.ifCond .eq 5, 3) := by decide +kernel
theorem d_law_635 : decode code 635 = .ok (.goto 777, 3) := by decide +kernel
set_option maxHeartbeats 1000000 in
theorem law_c7 {p : Program} {l : Launch} {e : Env} {s : State} {m : MethodId} {below : List Frame} {meth : Method} {c : Code} {D : va_G} {cA : Nat → ClassId} {b L : Nat} {xs : Nat → Int32} (C : Cx p s m meth c code 9 #[Value.ref b] lw_tbl "WidowWatchLaw" D cA (fun q => s.heap.size ≤ q)) (hE : EvY D cA (fun q => s.heap.size ≤ q) s s.heap) (hst : l.stackTraces = false) (hX : va_X b L xs s s.heap) (hbl : b < s.heap.size) (o : Nat) (h ab ac ar hm rH rL rC rP r1 r2 r3 : Nat → Nat) {Q : State → Prop} (i : Nat) (hi : 6 * i + 6 ≤ L) (hL : L ≤ 3072) {f : Nat → Int64} {S : ivS} {th : Int32} {w wM : va_W} (hI : ivI cA h ab ac ar S false w) (hM : imI cA hm rH rL rC rP r1 r2 r3 S th wM) (nx : ∀ (f : Nat → Int64) (S : ivS) (th : Int32) (w wM : va_W), ivI cA h ab ac ar S false w → imI cA hm rH rL rC rP r1 r2 r3 S th wM → lwK p l e s m below meth c D b Q (2000 + 8 * i + 8) (100000 + 64 * i + 64) ((w ++ [(o, .inl (cA 5, 1, .inr (.inl f)))]) ++ wM) 1412 [(0, .ref b), (1, .ref (h 0)), (2, .ref (hm 0)), (3, .ref o), (4, .int (nI (6 * i)))] []) : lwK p l e s m below meth c D b Q (2000 + 8 * i) (100000 + 64 * i) ((w ++ [(o, .inl (cA 5, 1, .inr (.inl f)))]) ++ wM) 554 [(0, .ref b), (1, .ref (h 0)), (2, .ref (hm 0)), (3, .ref o), (4, .int (nI (6 * i)))] [] := by
  have hbA : ¬ (fun q => s.heap.size ≤ q) b := Nat.not_le.mpr hbl
  have hcl : ∀ j, j ≤ 8 → 2000 + 8 * i + j ≤ room_1.cells := fun j hj => by
    show _ ≤ 601024
    omega
  have hsl : ∀ j, j ≤ 64 → 100000 + 64 * i + j ≤ room_1.slots := fun j hj => by
    show _ ≤ 7293034
    omega
  obtain ⟨fs, t, hw⟩ := hI.hd
  obtain ⟨fsM, tM, hwM⟩ := hM.hd
  obtain ⟨b1, hb1⟩ := lw_bool (xs (nI (6 * i) + (1 : Int32)).toNatClampNeg)
  refine k_aload_n C 1 (pc := 554) d_law_554 rfl rfl ?_
  refine k_aload_n C 0 (pc := 555) d_law_555 rfl rfl ?_
  refine k_iload C 4 (pc := 556) d_law_556 rfl ?_
  refine k_iconst C (pc := 558) (v := (1 : Int32)) d_law_558 rfl ?_
  refine k_iadd C (pc := 559) d_law_559 ?_
  refine k_sld C (pc := 560) hX hbl hbA (lw_hin hi hL 1 (by decide)) d_law_560 ?_
  suffices J : lwK p l e s m below meth c D b Q (2000 + 8 * i) (100000 + 64 * i) ((w ++ [(o, .inl (cA 5, 1, .inr (.inl f)))]) ++ wM) 569 [(0, .ref b), (1, .ref (h 0)), (2, .ref (hm 0)), (3, .ref o), (4, .int (nI (6 * i)))] [.int (bI b1), .ref (h 0)] by
    refine k_if_eq C (pc := 561) (tgt := 568) d_law_561 (by decide) (fun c_ => ?_) (fun c_ => ?_)
    · refine k_iconst C (pc := 568) (v := (0 : Int32)) d_law_568 rfl ?_
      rw [hb1.1 c_] at J
      exact J
    · refine k_iconst C (pc := 564) (v := (1 : Int32)) d_law_564 rfl ?_
      refine k_goto C (pc := 565) (tgt := 569) d_law_565 (by decide) ?_
      rw [hb1.2 c_] at J
      exact J
  refine k_aload_n C 0 (pc := 569) d_law_569 rfl rfl ?_
  refine k_iload C 4 (pc := 570) d_law_570 rfl ?_
  refine k_iconst C (pc := 572) (v := (2 : Int32)) d_law_572 rfl ?_
  refine k_iadd C (pc := 573) d_law_573 ?_
  refine k_sld C (pc := 574) hX hbl hbA (lw_hin hi hL 2 (by decide)) d_law_574 ?_
  refine k_aload_n C 3 (pc := 575) d_law_575 rfl rfl ?_
  refine kx_onL C (pc := 576) (ky_runS C hE (As := [.ref (h 0), .int (bI b1), .int (xs (nI (6 * i) + (2 : Int32)).toNatClampNeg), .ref o]) (rest := []) (wl_plan l D cA h ab ac ar hst b1 (xs (nI (6 * i) + (2 : Int32)).toNatClampNeg) hI o f) (ky_cw C tYL_plan tW_4_66 tW_1_0 tW_4_67 okL_plan rfl rfl ⟨Nat.le_of_ble_eq_true rfl, Nat.le_of_ble_eq_true rfl⟩) rfl rfl (Nat.le_of_ble_eq_true rfl) d_law_576 ⟨hcl 1 (by decide), hsl 6 (by decide)⟩) (fun v w1 h_ => by obtain ⟨r, rfl, -, w2, f2, rfl, h1, -⟩ := h_; rw [List.map_append, List.map_append, h1.ad, hI.ad]; rfl) (fun E w1 h_ => h_.elim) (fun E w1 hx => hx.elim) (fun v w1 hv => ?_)
  obtain ⟨k1, rfl, e1, w2, f2, rfl, hI1, ho⟩ := hv
  refine k_eq (pc := 579) (ws' := ((w2 ++ [(o, .inl (cA 5, 1, .inr (.inl f2)))]) ++ wM)) (st' := [.int k1]) rfl rfl rfl ?_
  refine k_widen (k := 2000 + 8 * i + 8) (n := 100000 + 64 * i + 64) (by omega) (by omega) ?_
  refine k_istore C (pc := 579) d_law_579 (Nat.lt_of_lt_of_le (Nat.lt_succ_self _) (Nat.le_of_ble_eq_true rfl)) (lv' := [(5, .int k1), (0, .ref b), (1, .ref (h 0)), (2, .ref (hm 0)), (3, .ref o), (4, .int (nI (6 * i)))]) rfl ?_
  refine k_aload_n C 3 (pc := 581) d_law_581 rfl rfl ?_
  refine k_aload_n C 1 (pc := 582) d_law_582 rfl rfl ?_
  refine k_iload C 5 (pc := 583) d_law_583 rfl ?_
  refine k_iconst C (pc := 585) (v := (1 : Int32)) d_law_585 rfl ?_
  refine k_iadd C (pc := 586) d_law_586 ?_
  refine k_sld C (pc := 587) hX hbl hbA (lw_hin hi hL 1 (by decide)) d_law_587 ?_
  suffices J : lwK p l e s m below meth c D b Q (2000 + 8 * i + 8) (100000 + 64 * i + 64) ((w2 ++ [(o, .inl (cA 5, 1, .inr (.inl f2)))]) ++ wM) 596 [(5, .int k1), (0, .ref b), (1, .ref (h 0)), (2, .ref (hm 0)), (3, .ref o), (4, .int (nI (6 * i)))] [.int (bI b1), .ref (hm 0)] by
    refine k_if_eq C (pc := 588) (tgt := 595) d_law_588 (by decide) (fun c_ => ?_) (fun c_ => ?_)
    · refine k_iconst C (pc := 595) (v := (0 : Int32)) d_law_595 rfl ?_
      rw [hb1.1 c_] at J
      exact J
    · refine k_iconst C (pc := 591) (v := (1 : Int32)) d_law_591 rfl ?_
      refine k_goto C (pc := 592) (tgt := 596) d_law_592 (by decide) ?_
      rw [hb1.2 c_] at J
      exact J
  refine k_aload_n C 1 (pc := 596) d_law_596 rfl rfl ?_
  refine k_iload C 5 (pc := 597) d_law_597 rfl ?_
  refine k_iconst C (pc := 599) (v := (2 : Int32)) d_law_599 rfl ?_
  refine k_iadd C (pc := 600) d_law_600 ?_
  refine k_sld C (pc := 601) hX hbl hbA (lw_hin hi hL 2 (by decide)) d_law_601 ?_
  refine k_onR C (pc := 602) (k_runV C (As := [.int (bI b1), .int (xs (nI (6 * i) + (2 : Int32)).toNatClampNeg)]) (rest := []) (ci := 7) (q0 := 0) (mi_plan l D cA hm rH rL rC rP r1 r2 r3 b1 (xs (nI (6 * i) + (2 : Int32)).toNatClampNeg) hI.ok hI.n8 hM) ⟨k_cwB C tW_5_235 tW_5_232 tW_1_8 okX7_plan rfl rfl ⟨Nat.le_of_ble_eq_true rfl, Nat.le_of_ble_eq_true rfl⟩, C.w tW_5_233, C.w tW_5_234⟩ (by rw [hwM]; rfl) rfl rfl rfl rfl (Nat.le_of_ble_eq_true rfl) d_law_602 ⟨hcl 8 (by decide), hsl 64 (by decide)⟩) (fun v w4 hv => ?_)
  obtain ⟨x2, rfl, e2, S1, hN, hM1⟩ := hv
  have hI2 := hI1.near hN
  refine k_eq (pc := 605) (ws' := ((w2 ++ [(o, .inl (cA 5, 1, .inr (.inl f2)))]) ++ w4)) (st' := [.int x2]) rfl rfl rfl ?_
  refine k_widen (k := 2000 + 8 * i + 8) (n := 100000 + 64 * i + 64) (by omega) (by omega) ?_
  refine k_istore C (pc := 605) d_law_605 (Nat.lt_of_lt_of_le (Nat.lt_succ_self _) (Nat.le_of_ble_eq_true rfl)) (lv' := [(6, .int x2), (5, .int k1), (0, .ref b), (1, .ref (h 0)), (2, .ref (hm 0)), (3, .ref o), (4, .int (nI (6 * i)))]) rfl ?_
  refine k_aload_n C 4 (pc := 607) d_law_607 rfl rfl ?_
  obtain ⟨fsM1, tM1, hwM1⟩ := hM1.hd
  refine k_onR C (pc := 608) (k_runV C (As := []) (rest := []) (ci := 7) (q0 := 0) (mi_thrown l D cA hm rH rL rC rP r1 r2 r3 hI2.ok hI2.n8 hM1) ⟨k_cwB C tW_5_43 tW_5_40 tW_1_8 okX7_thrown rfl rfl ⟨Nat.le_of_ble_eq_true rfl, Nat.le_of_ble_eq_true rfl⟩, C.w tW_5_41, C.w tW_5_42⟩ (by rw [hwM1]; rfl) rfl rfl rfl rfl (Nat.le_of_ble_eq_true rfl) d_law_608 ⟨hcl 8 (by decide), hsl 64 (by decide)⟩) (fun v w4 hv => ?_)
  obtain ⟨t1, rfl, e3, hM2⟩ := hv
  refine k_eq (pc := 611) (ws' := ((w2 ++ [(o, .inl (cA 5, 1, .inr (.inl f2)))]) ++ w4)) (st' := [.int t1]) rfl rfl rfl ?_
  refine k_widen (k := 2000 + 8 * i + 8) (n := 100000 + 64 * i + 64) (by omega) (by omega) ?_
  refine k_iload C 1 (pc := 611) d_law_611 rfl ?_
  refine k_icmp_eq C (pc := 613) (tgt := 618) d_law_613 (by decide) (fun _ => ?_) (fun c_ => absurd (e3.trans e1.symm) c_)
  refine k_iload C 1 (pc := 618) d_law_618 rfl ?_
  have T2 : lwK p l e s m below meth c D b Q (2000 + 8 * i + 8) (100000 + 64 * i + 64) ((w2 ++ [(o, .inl (cA 5, 1, .inr (.inl f2)))]) ++ w4) 635 [(6, .int x2), (5, .int k1), (0, .ref b), (1, .ref (h 0)), (2, .ref (hm 0)), (3, .ref o), (4, .int (nI (6 * i)))] [] := by
    refine k_goto C (pc := 635) (tgt := 1412) d_law_635 (by decide) ?_
    refine k_lv (pc := 1412) [2, 3, 4, 5, 6] (lv' := [(0, .ref b), (1, .ref (h 0)), (2, .ref (hm 0)), (3, .ref o), (4, .int (nI (6 * i)))]) rfl ?_
    exact nx _ S1 _ _ _ hI2 hM2
  refine k_if_ne C (pc := 620) (tgt := 635) d_law_620 (by decide) (fun _ => T2) (fun c_ => ?_)
  refine k_aload_n C 5 (pc := 623) d_law_623 rfl rfl ?_
  refine k_iconst C (pc := 624) (v := (0 : Int32)) d_law_624 rfl ?_
  refine k_lald C (pc := 625) w2.length (cc_get2 _ _ _) (vp_in_nI (n := 0) (by decide) (by decide)) d_law_625 ?_
  refine k_iload C 0 (pc := 626) d_law_626 rfl ?_
  have hv : f2 0 = x2.toInt64 := (ho (e1.symm.trans c_)).trans (congrArg Int32.toInt64 e2).symm
  refine k_i2l C (pc := 628) (v := x2.toInt64) d_law_628 rfl ?_
  refine k_lcmp C (pc := 629) d_law_629 ?_
  have hz : lg_cmp (f2 (0 : Int32).toNatClampNeg) x2.toInt64 = 0 := by
    show lg_cmp (f2 0) _ = 0
    rw [hv]
    exact lg_self _
  exact k_if_eq C (pc := 630) (tgt := 635) d_law_630 (by decide) (fun _ => T2) (fun c_ => absurd hz c_)
theorem d_law_638 : decode code 638 = .ok (.aload_n 1, 1) := by decide +kernel
theorem d_law_639 : decode code 639 = .ok (.aload_n 0, 1) := by decide +kernel
theorem d_law_640 : decode code 640 = .ok (.iload 4, 2) := by decide +kernel
theorem d_law_642 : decode code 642 = .ok (.iconst 1, 1) := by decide +kernel
theorem d_law_643 : decode code 643 = .ok (.iadd, 1) := by decide +kernel
theorem d_law_644 : decode code 644 = .ok (.iaload, 1) := by decide +kernel
theorem d_law_645 : decode code 645 = .ok (.ifCond .eq 7, 3) := by decide +kernel
theorem d_law_648 : decode code 648 = .ok (.iconst 1, 1) := by decide +kernel
theorem d_law_649 : decode code 649 = .ok (.goto 4, 3) := by decide +kernel
theorem d_law_652 : decode code 652 = .ok (.iconst 0, 1) := by decide +kernel
theorem d_law_653 : decode code 653 = .ok (.aload_n 0, 1) := by decide +kernel
theorem d_law_654 : decode code 654 = .ok (.iload 4, 2) := by decide +kernel
theorem d_law_656 : decode code 656 = .ok (.iconst 2, 1) := by decide +kernel
theorem d_law_657 : decode code 657 = .ok (.iadd, 1) := by decide +kernel
theorem d_law_658 : decode code 658 = .ok (.iaload, 1) := by decide +kernel
theorem d_law_659 : decode code 659 = .ok (.aload_n 0, 1) := by decide +kernel
theorem d_law_660 : decode code 660 = .ok (.iload 4, 2) := by decide +kernel
theorem d_law_662 : decode code 662 = .ok (.iconst 3, 1) := by decide +kernel
theorem d_law_663 : decode code 663 = .ok (.iadd, 1) := by decide +kernel
theorem d_law_664 : decode code 664 = .ok (.iaload, 1) := by decide +kernel
theorem d_law_665 : decode code 665 = .ok (.aload_n 3, 1) := by decide +kernel
theorem d_law_666 : decode code 666 = .ok (.invokestatic 109, 3) := by decide +kernel
theorem d_law_669 : decode code 669 = .ok (.istore 5, 2) := by decide +kernel
theorem d_law_671 : decode code 671 = .ok (.aload_n 2, 1) := by decide +kernel
theorem d_law_672 : decode code 672 = .ok (.aload_n 0, 1) := by decide +kernel
theorem d_law_673 : decode code 673 = .ok (.iload 4, 2) := by decide +kernel
theorem d_law_675 : decode code 675 = .ok (.iconst 1, 1) := by decide +kernel
theorem d_law_676 : decode code 676 = .ok (.iadd, 1) := by decide +kernel
theorem d_law_677 : decode code 677 = .ok (.iaload, 1) := by decide +kernel
theorem d_law_678 : decode code 678 = .ok (.ifCond .eq 7, 3) := by decide +kernel
theorem d_law_681 : decode code 681 = .ok (.iconst 1, 1) := by decide +kernel
theorem d_law_682 : decode code 682 = .ok (.goto 4, 3) := by decide +kernel
theorem d_law_685 : decode code 685 = .ok (.iconst 0, 1) := by decide +kernel
theorem d_law_686 : decode code 686 = .ok (.aload_n 0, 1) := by decide +kernel
theorem d_law_687 : decode code 687 = .ok (.iload 4, 2) := by decide +kernel
theorem d_law_689 : decode code 689 = .ok (.iconst 2, 1) := by decide +kernel
theorem d_law_690 : decode code 690 = .ok (.iadd, 1) := by decide +kernel
theorem d_law_691 : decode code 691 = .ok (.iaload, 1) := by decide +kernel
theorem d_law_692 : decode code 692 = .ok (.aload_n 0, 1) := by decide +kernel
theorem d_law_693 : decode code 693 = .ok (.iload 4, 2) := by decide +kernel
theorem d_law_695 : decode code 695 = .ok (.iconst 3, 1) := by decide +kernel
theorem d_law_696 : decode code 696 = .ok (.iadd, 1) := by decide +kernel
theorem d_law_697 : decode code 697 = .ok (.iaload, 1) := by decide +kernel
theorem d_law_698 : decode code 698 = .ok (.invokevirtual 112, 3) := by decide +kernel
theorem d_law_701 : decode code 701 = .ok (.istore 6, 2) := by decide +kernel
theorem d_law_703 : decode code 703 = .ok (.aload_n 2, 1) := by decide +kernel
theorem d_law_704 : decode code 704 = .ok (.invokevirtual 83, 3) := by decide +kernel
theorem d_law_707 : decode code 707 = .ok (.iload 5, 2) := by decide +kernel
theorem d_law_709 : decode code 709 = .ok (.if_icmp .eq 5, 3) := by decide +kernel
theorem d_law_714 : decode code 714 = .ok (.iload 5, 2) := by decide +kernel
theorem d_law_716 : decode code 716 = .ok (.ifCond .ne 15, 3) := by decide +kernel
theorem d_law_719 : decode code 719 = .ok (.aload_n 3, 1) := by decide +kernel
theorem d_law_720 : decode code 720 = .ok (.iconst 0, 1) := by decide +kernel
theorem d_law_721 : decode code 721 = .ok (.laload, 1) := by decide +kernel
theorem d_law_722 : decode code 722 = .ok (.iload 6, 2) := by decide +kernel
theorem d_law_724 : decode code 724 = .ok (.i2l, 1) := by decide +kernel
theorem d_law_725 : decode code 725 = .ok (.lcmp, 1) := by decide +kernel
theorem d_law_726 : decode code 726 = .ok (.ifCond .eq 5, 3) := by decide +kernel
theorem d_law_731 : decode code 731 = .ok (.goto 681, 3) := by decide +kernel
set_option maxHeartbeats 1000000 in
theorem law_c8 {p : Program} {l : Launch} {e : Env} {s : State} {m : MethodId} {below : List Frame} {meth : Method} {c : Code} {D : va_G} {cA : Nat → ClassId} {b L : Nat} {xs : Nat → Int32} (C : Cx p s m meth c code 9 #[Value.ref b] lw_tbl "WidowWatchLaw" D cA (fun q => s.heap.size ≤ q)) (hE : EvY D cA (fun q => s.heap.size ≤ q) s s.heap) (hst : l.stackTraces = false) (hX : va_X b L xs s s.heap) (hbl : b < s.heap.size) (o : Nat) (h ab ac ar hm rH rL rC rP r1 r2 r3 : Nat → Nat) {Q : State → Prop} (i : Nat) (hi : 6 * i + 6 ≤ L) (hL : L ≤ 3072) {f : Nat → Int64} {S : ivS} {th : Int32} {w wM : va_W} (hI : ivI cA h ab ac ar S false w) (hM : imI cA hm rH rL rC rP r1 r2 r3 S th wM) (nx : ∀ (f : Nat → Int64) (S : ivS) (th : Int32) (w wM : va_W), ivI cA h ab ac ar S false w → imI cA hm rH rL rC rP r1 r2 r3 S th wM → lwK p l e s m below meth c D b Q (2000 + 8 * i + 8) (100000 + 64 * i + 64) ((w ++ [(o, .inl (cA 5, 1, .inr (.inl f)))]) ++ wM) 1412 [(0, .ref b), (1, .ref (h 0)), (2, .ref (hm 0)), (3, .ref o), (4, .int (nI (6 * i)))] []) : lwK p l e s m below meth c D b Q (2000 + 8 * i) (100000 + 64 * i) ((w ++ [(o, .inl (cA 5, 1, .inr (.inl f)))]) ++ wM) 638 [(0, .ref b), (1, .ref (h 0)), (2, .ref (hm 0)), (3, .ref o), (4, .int (nI (6 * i)))] [] := by
  have hbA : ¬ (fun q => s.heap.size ≤ q) b := Nat.not_le.mpr hbl
  have hcl : ∀ j, j ≤ 8 → 2000 + 8 * i + j ≤ room_1.cells := fun j hj => by
    show _ ≤ 601024
    omega
  have hsl : ∀ j, j ≤ 64 → 100000 + 64 * i + j ≤ room_1.slots := fun j hj => by
    show _ ≤ 7293034
    omega
  obtain ⟨fs, t, hw⟩ := hI.hd
  obtain ⟨fsM, tM, hwM⟩ := hM.hd
  obtain ⟨b1, hb1⟩ := lw_bool (xs (nI (6 * i) + (1 : Int32)).toNatClampNeg)
  refine k_aload_n C 1 (pc := 638) d_law_638 rfl rfl ?_
  refine k_aload_n C 0 (pc := 639) d_law_639 rfl rfl ?_
  refine k_iload C 4 (pc := 640) d_law_640 rfl ?_
  refine k_iconst C (pc := 642) (v := (1 : Int32)) d_law_642 rfl ?_
  refine k_iadd C (pc := 643) d_law_643 ?_
  refine k_sld C (pc := 644) hX hbl hbA (lw_hin hi hL 1 (by decide)) d_law_644 ?_
  suffices J : lwK p l e s m below meth c D b Q (2000 + 8 * i) (100000 + 64 * i) ((w ++ [(o, .inl (cA 5, 1, .inr (.inl f)))]) ++ wM) 653 [(0, .ref b), (1, .ref (h 0)), (2, .ref (hm 0)), (3, .ref o), (4, .int (nI (6 * i)))] [.int (bI b1), .ref (h 0)] by
    refine k_if_eq C (pc := 645) (tgt := 652) d_law_645 (by decide) (fun c_ => ?_) (fun c_ => ?_)
    · refine k_iconst C (pc := 652) (v := (0 : Int32)) d_law_652 rfl ?_
      rw [hb1.1 c_] at J
      exact J
    · refine k_iconst C (pc := 648) (v := (1 : Int32)) d_law_648 rfl ?_
      refine k_goto C (pc := 649) (tgt := 653) d_law_649 (by decide) ?_
      rw [hb1.2 c_] at J
      exact J
  refine k_aload_n C 0 (pc := 653) d_law_653 rfl rfl ?_
  refine k_iload C 4 (pc := 654) d_law_654 rfl ?_
  refine k_iconst C (pc := 656) (v := (2 : Int32)) d_law_656 rfl ?_
  refine k_iadd C (pc := 657) d_law_657 ?_
  refine k_sld C (pc := 658) hX hbl hbA (lw_hin hi hL 2 (by decide)) d_law_658 ?_
  refine k_aload_n C 0 (pc := 659) d_law_659 rfl rfl ?_
  refine k_iload C 4 (pc := 660) d_law_660 rfl ?_
  refine k_iconst C (pc := 662) (v := (3 : Int32)) d_law_662 rfl ?_
  refine k_iadd C (pc := 663) d_law_663 ?_
  refine k_sld C (pc := 664) hX hbl hbA (lw_hin hi hL 3 (by decide)) d_law_664 ?_
  refine k_aload_n C 3 (pc := 665) d_law_665 rfl rfl ?_
  refine kx_onL C (pc := 666) (ky_runS C hE (As := [.ref (h 0), .int (bI b1), .int (xs (nI (6 * i) + (2 : Int32)).toNatClampNeg), .int (xs (nI (6 * i) + (3 : Int32)).toNatClampNeg), .ref o]) (rest := []) (wl_page l D cA h ab ac ar hst b1 (xs (nI (6 * i) + (2 : Int32)).toNatClampNeg) (xs (nI (6 * i) + (3 : Int32)).toNatClampNeg) hI o f) (ky_cw C tYL_page tW_4_73 tW_1_0 tW_4_74 okL_page rfl rfl ⟨Nat.le_of_ble_eq_true rfl, Nat.le_of_ble_eq_true rfl⟩) rfl rfl (Nat.le_of_ble_eq_true rfl) d_law_666 ⟨hcl 2 (by decide), hsl 12 (by decide)⟩) (fun v w1 h_ => by obtain ⟨r, rfl, -, w2, f2, rfl, h1, -⟩ := h_; rw [List.map_append, List.map_append, h1.ad, hI.ad]; rfl) (fun E w1 h_ => h_.elim) (fun E w1 hx => hx.elim) (fun v w1 hv => ?_)
  obtain ⟨k1, rfl, e1, w2, f2, rfl, hI1, ho⟩ := hv
  refine k_eq (pc := 669) (ws' := ((w2 ++ [(o, .inl (cA 5, 1, .inr (.inl f2)))]) ++ wM)) (st' := [.int k1]) rfl rfl rfl ?_
  refine k_widen (k := 2000 + 8 * i + 8) (n := 100000 + 64 * i + 64) (by omega) (by omega) ?_
  refine k_istore C (pc := 669) d_law_669 (Nat.lt_of_lt_of_le (Nat.lt_succ_self _) (Nat.le_of_ble_eq_true rfl)) (lv' := [(5, .int k1), (0, .ref b), (1, .ref (h 0)), (2, .ref (hm 0)), (3, .ref o), (4, .int (nI (6 * i)))]) rfl ?_
  refine k_aload_n C 3 (pc := 671) d_law_671 rfl rfl ?_
  refine k_aload_n C 1 (pc := 672) d_law_672 rfl rfl ?_
  refine k_iload C 5 (pc := 673) d_law_673 rfl ?_
  refine k_iconst C (pc := 675) (v := (1 : Int32)) d_law_675 rfl ?_
  refine k_iadd C (pc := 676) d_law_676 ?_
  refine k_sld C (pc := 677) hX hbl hbA (lw_hin hi hL 1 (by decide)) d_law_677 ?_
  suffices J : lwK p l e s m below meth c D b Q (2000 + 8 * i + 8) (100000 + 64 * i + 64) ((w2 ++ [(o, .inl (cA 5, 1, .inr (.inl f2)))]) ++ wM) 686 [(5, .int k1), (0, .ref b), (1, .ref (h 0)), (2, .ref (hm 0)), (3, .ref o), (4, .int (nI (6 * i)))] [.int (bI b1), .ref (hm 0)] by
    refine k_if_eq C (pc := 678) (tgt := 685) d_law_678 (by decide) (fun c_ => ?_) (fun c_ => ?_)
    · refine k_iconst C (pc := 685) (v := (0 : Int32)) d_law_685 rfl ?_
      rw [hb1.1 c_] at J
      exact J
    · refine k_iconst C (pc := 681) (v := (1 : Int32)) d_law_681 rfl ?_
      refine k_goto C (pc := 682) (tgt := 686) d_law_682 (by decide) ?_
      rw [hb1.2 c_] at J
      exact J
  refine k_aload_n C 1 (pc := 686) d_law_686 rfl rfl ?_
  refine k_iload C 5 (pc := 687) d_law_687 rfl ?_
  refine k_iconst C (pc := 689) (v := (2 : Int32)) d_law_689 rfl ?_
  refine k_iadd C (pc := 690) d_law_690 ?_
  refine k_sld C (pc := 691) hX hbl hbA (lw_hin hi hL 2 (by decide)) d_law_691 ?_
  refine k_aload_n C 1 (pc := 692) d_law_692 rfl rfl ?_
  refine k_iload C 5 (pc := 693) d_law_693 rfl ?_
  refine k_iconst C (pc := 695) (v := (3 : Int32)) d_law_695 rfl ?_
  refine k_iadd C (pc := 696) d_law_696 ?_
  refine k_sld C (pc := 697) hX hbl hbA (lw_hin hi hL 3 (by decide)) d_law_697 ?_
  refine k_onR C (pc := 698) (k_runV C (As := [.int (bI b1), .int (xs (nI (6 * i) + (2 : Int32)).toNatClampNeg), .int (xs (nI (6 * i) + (3 : Int32)).toNatClampNeg)]) (rest := []) (ci := 7) (q0 := 0) (mi_page l D cA hm rH rL rC rP r1 r2 r3 b1 (xs (nI (6 * i) + (2 : Int32)).toNatClampNeg) (xs (nI (6 * i) + (3 : Int32)).toNatClampNeg) hI.ok hI.n8 hM) ⟨k_cwB C tW_6_23 tW_6_20 tW_1_8 okX7_page rfl rfl ⟨Nat.le_of_ble_eq_true rfl, Nat.le_of_ble_eq_true rfl⟩, C.w tW_6_21, C.w tW_6_22⟩ (by rw [hwM]; rfl) rfl rfl rfl rfl (Nat.le_of_ble_eq_true rfl) d_law_698 ⟨hcl 8 (by decide), hsl 64 (by decide)⟩) (fun v w4 hv => ?_)
  obtain ⟨x2, rfl, e2, S1, hN, hM1⟩ := hv
  have hI2 := hI1.near hN
  refine k_eq (pc := 701) (ws' := ((w2 ++ [(o, .inl (cA 5, 1, .inr (.inl f2)))]) ++ w4)) (st' := [.int x2]) rfl rfl rfl ?_
  refine k_widen (k := 2000 + 8 * i + 8) (n := 100000 + 64 * i + 64) (by omega) (by omega) ?_
  refine k_istore C (pc := 701) d_law_701 (Nat.lt_of_lt_of_le (Nat.lt_succ_self _) (Nat.le_of_ble_eq_true rfl)) (lv' := [(6, .int x2), (5, .int k1), (0, .ref b), (1, .ref (h 0)), (2, .ref (hm 0)), (3, .ref o), (4, .int (nI (6 * i)))]) rfl ?_
  refine k_aload_n C 4 (pc := 703) d_law_703 rfl rfl ?_
  obtain ⟨fsM1, tM1, hwM1⟩ := hM1.hd
  refine k_onR C (pc := 704) (k_runV C (As := []) (rest := []) (ci := 7) (q0 := 0) (mi_thrown l D cA hm rH rL rC rP r1 r2 r3 hI2.ok hI2.n8 hM1) ⟨k_cwB C tW_5_43 tW_5_40 tW_1_8 okX7_thrown rfl rfl ⟨Nat.le_of_ble_eq_true rfl, Nat.le_of_ble_eq_true rfl⟩, C.w tW_5_41, C.w tW_5_42⟩ (by rw [hwM1]; rfl) rfl rfl rfl rfl (Nat.le_of_ble_eq_true rfl) d_law_704 ⟨hcl 8 (by decide), hsl 64 (by decide)⟩) (fun v w4 hv => ?_)
  obtain ⟨t1, rfl, e3, hM2⟩ := hv
  refine k_eq (pc := 707) (ws' := ((w2 ++ [(o, .inl (cA 5, 1, .inr (.inl f2)))]) ++ w4)) (st' := [.int t1]) rfl rfl rfl ?_
  refine k_widen (k := 2000 + 8 * i + 8) (n := 100000 + 64 * i + 64) (by omega) (by omega) ?_
  refine k_iload C 1 (pc := 707) d_law_707 rfl ?_
  refine k_icmp_eq C (pc := 709) (tgt := 714) d_law_709 (by decide) (fun _ => ?_) (fun c_ => absurd (e3.trans e1.symm) c_)
  refine k_iload C 1 (pc := 714) d_law_714 rfl ?_
  have T2 : lwK p l e s m below meth c D b Q (2000 + 8 * i + 8) (100000 + 64 * i + 64) ((w2 ++ [(o, .inl (cA 5, 1, .inr (.inl f2)))]) ++ w4) 731 [(6, .int x2), (5, .int k1), (0, .ref b), (1, .ref (h 0)), (2, .ref (hm 0)), (3, .ref o), (4, .int (nI (6 * i)))] [] := by
    refine k_goto C (pc := 731) (tgt := 1412) d_law_731 (by decide) ?_
    refine k_lv (pc := 1412) [2, 3, 4, 5, 6] (lv' := [(0, .ref b), (1, .ref (h 0)), (2, .ref (hm 0)), (3, .ref o), (4, .int (nI (6 * i)))]) rfl ?_
    exact nx _ S1 _ _ _ hI2 hM2
  refine k_if_ne C (pc := 716) (tgt := 731) d_law_716 (by decide) (fun _ => T2) (fun c_ => ?_)
  refine k_aload_n C 5 (pc := 719) d_law_719 rfl rfl ?_
  refine k_iconst C (pc := 720) (v := (0 : Int32)) d_law_720 rfl ?_
  refine k_lald C (pc := 721) w2.length (cc_get2 _ _ _) (vp_in_nI (n := 0) (by decide) (by decide)) d_law_721 ?_
  refine k_iload C 0 (pc := 722) d_law_722 rfl ?_
  have hv : f2 0 = x2.toInt64 := (ho (e1.symm.trans c_)).trans (congrArg Int32.toInt64 e2).symm
  refine k_i2l C (pc := 724) (v := x2.toInt64) d_law_724 rfl ?_
  refine k_lcmp C (pc := 725) d_law_725 ?_
  have hz : lg_cmp (f2 (0 : Int32).toNatClampNeg) x2.toInt64 = 0 := by
    show lg_cmp (f2 0) _ = 0
    rw [hv]
    exact lg_self _
  exact k_if_eq C (pc := 726) (tgt := 731) d_law_726 (by decide) (fun _ => T2) (fun c_ => absurd hz c_)
theorem d_law_734 : decode code 734 = .ok (.aload_n 1, 1) := by decide +kernel
theorem d_law_735 : decode code 735 = .ok (.aload_n 0, 1) := by decide +kernel
theorem d_law_736 : decode code 736 = .ok (.iload 4, 2) := by decide +kernel
theorem d_law_738 : decode code 738 = .ok (.iconst 1, 1) := by decide +kernel
theorem d_law_739 : decode code 739 = .ok (.iadd, 1) := by decide +kernel
theorem d_law_740 : decode code 740 = .ok (.iaload, 1) := by decide +kernel
theorem d_law_741 : decode code 741 = .ok (.ifCond .eq 7, 3) := by decide +kernel
theorem d_law_744 : decode code 744 = .ok (.iconst 1, 1) := by decide +kernel
theorem d_law_745 : decode code 745 = .ok (.goto 4, 3) := by decide +kernel
theorem d_law_748 : decode code 748 = .ok (.iconst 0, 1) := by decide +kernel
theorem d_law_749 : decode code 749 = .ok (.aload_n 0, 1) := by decide +kernel
theorem d_law_750 : decode code 750 = .ok (.iload 4, 2) := by decide +kernel
theorem d_law_752 : decode code 752 = .ok (.iconst 2, 1) := by decide +kernel
theorem d_law_753 : decode code 753 = .ok (.iadd, 1) := by decide +kernel
theorem d_law_754 : decode code 754 = .ok (.iaload, 1) := by decide +kernel
theorem d_law_755 : decode code 755 = .ok (.aload_n 0, 1) := by decide +kernel
theorem d_law_756 : decode code 756 = .ok (.iload 4, 2) := by decide +kernel
theorem d_law_758 : decode code 758 = .ok (.iconst 3, 1) := by decide +kernel
theorem d_law_759 : decode code 759 = .ok (.iadd, 1) := by decide +kernel
theorem d_law_760 : decode code 760 = .ok (.iaload, 1) := by decide +kernel
theorem d_law_761 : decode code 761 = .ok (.aload_n 3, 1) := by decide +kernel
theorem d_law_762 : decode code 762 = .ok (.invokestatic 113, 3) := by decide +kernel
theorem d_law_765 : decode code 765 = .ok (.istore 5, 2) := by decide +kernel
theorem d_law_767 : decode code 767 = .ok (.aload_n 2, 1) := by decide +kernel
theorem d_law_768 : decode code 768 = .ok (.aload_n 0, 1) := by decide +kernel
theorem d_law_769 : decode code 769 = .ok (.iload 4, 2) := by decide +kernel
theorem d_law_771 : decode code 771 = .ok (.iconst 1, 1) := by decide +kernel
theorem d_law_772 : decode code 772 = .ok (.iadd, 1) := by decide +kernel
theorem d_law_773 : decode code 773 = .ok (.iaload, 1) := by decide +kernel
theorem d_law_774 : decode code 774 = .ok (.ifCond .eq 7, 3) := by decide +kernel
theorem d_law_777 : decode code 777 = .ok (.iconst 1, 1) := by decide +kernel
theorem d_law_778 : decode code 778 = .ok (.goto 4, 3) := by decide +kernel
theorem d_law_781 : decode code 781 = .ok (.iconst 0, 1) := by decide +kernel
theorem d_law_782 : decode code 782 = .ok (.aload_n 0, 1) := by decide +kernel
theorem d_law_783 : decode code 783 = .ok (.iload 4, 2) := by decide +kernel
theorem d_law_785 : decode code 785 = .ok (.iconst 2, 1) := by decide +kernel
theorem d_law_786 : decode code 786 = .ok (.iadd, 1) := by decide +kernel
theorem d_law_787 : decode code 787 = .ok (.iaload, 1) := by decide +kernel
theorem d_law_788 : decode code 788 = .ok (.aload_n 0, 1) := by decide +kernel
theorem d_law_789 : decode code 789 = .ok (.iload 4, 2) := by decide +kernel
theorem d_law_791 : decode code 791 = .ok (.iconst 3, 1) := by decide +kernel
theorem d_law_792 : decode code 792 = .ok (.iadd, 1) := by decide +kernel
theorem d_law_793 : decode code 793 = .ok (.iaload, 1) := by decide +kernel
theorem d_law_794 : decode code 794 = .ok (.invokevirtual 115, 3) := by decide +kernel
theorem d_law_797 : decode code 797 = .ok (.istore 6, 2) := by decide +kernel
theorem d_law_799 : decode code 799 = .ok (.aload_n 2, 1) := by decide +kernel
theorem d_law_800 : decode code 800 = .ok (.invokevirtual 83, 3) := by decide +kernel
theorem d_law_803 : decode code 803 = .ok (.iload 5, 2) := by decide +kernel
theorem d_law_805 : decode code 805 = .ok (.if_icmp .eq 5, 3) := by decide +kernel
theorem d_law_810 : decode code 810 = .ok (.iload 5, 2) := by decide +kernel
theorem d_law_812 : decode code 812 = .ok (.ifCond .ne 15, 3) := by decide +kernel
theorem d_law_815 : decode code 815 = .ok (.aload_n 3, 1) := by decide +kernel
theorem d_law_816 : decode code 816 = .ok (.iconst 0, 1) := by decide +kernel
theorem d_law_817 : decode code 817 = .ok (.laload, 1) := by decide +kernel
theorem d_law_818 : decode code 818 = .ok (.iload 6, 2) := by decide +kernel
theorem d_law_820 : decode code 820 = .ok (.i2l, 1) := by decide +kernel
theorem d_law_821 : decode code 821 = .ok (.lcmp, 1) := by decide +kernel
theorem d_law_822 : decode code 822 = .ok (.ifCond .eq 5, 3) := by decide +kernel
theorem d_law_827 : decode code 827 = .ok (.goto 585, 3) := by decide +kernel
set_option maxHeartbeats 1000000 in
theorem law_c9 {p : Program} {l : Launch} {e : Env} {s : State} {m : MethodId} {below : List Frame} {meth : Method} {c : Code} {D : va_G} {cA : Nat → ClassId} {b L : Nat} {xs : Nat → Int32} (C : Cx p s m meth c code 9 #[Value.ref b] lw_tbl "WidowWatchLaw" D cA (fun q => s.heap.size ≤ q)) (hE : EvY D cA (fun q => s.heap.size ≤ q) s s.heap) (hst : l.stackTraces = false) (hX : va_X b L xs s s.heap) (hbl : b < s.heap.size) (o : Nat) (h ab ac ar hm rH rL rC rP r1 r2 r3 : Nat → Nat) {Q : State → Prop} (i : Nat) (hi : 6 * i + 6 ≤ L) (hL : L ≤ 3072) {f : Nat → Int64} {S : ivS} {th : Int32} {w wM : va_W} (hI : ivI cA h ab ac ar S false w) (hM : imI cA hm rH rL rC rP r1 r2 r3 S th wM) (nx : ∀ (f : Nat → Int64) (S : ivS) (th : Int32) (w wM : va_W), ivI cA h ab ac ar S false w → imI cA hm rH rL rC rP r1 r2 r3 S th wM → lwK p l e s m below meth c D b Q (2000 + 8 * i + 8) (100000 + 64 * i + 64) ((w ++ [(o, .inl (cA 5, 1, .inr (.inl f)))]) ++ wM) 1412 [(0, .ref b), (1, .ref (h 0)), (2, .ref (hm 0)), (3, .ref o), (4, .int (nI (6 * i)))] []) : lwK p l e s m below meth c D b Q (2000 + 8 * i) (100000 + 64 * i) ((w ++ [(o, .inl (cA 5, 1, .inr (.inl f)))]) ++ wM) 734 [(0, .ref b), (1, .ref (h 0)), (2, .ref (hm 0)), (3, .ref o), (4, .int (nI (6 * i)))] [] := by
  have hbA : ¬ (fun q => s.heap.size ≤ q) b := Nat.not_le.mpr hbl
  have hcl : ∀ j, j ≤ 8 → 2000 + 8 * i + j ≤ room_1.cells := fun j hj => by
    show _ ≤ 601024
    omega
  have hsl : ∀ j, j ≤ 64 → 100000 + 64 * i + j ≤ room_1.slots := fun j hj => by
    show _ ≤ 7293034
    omega
  obtain ⟨fs, t, hw⟩ := hI.hd
  obtain ⟨fsM, tM, hwM⟩ := hM.hd
  obtain ⟨b1, hb1⟩ := lw_bool (xs (nI (6 * i) + (1 : Int32)).toNatClampNeg)
  refine k_aload_n C 1 (pc := 734) d_law_734 rfl rfl ?_
  refine k_aload_n C 0 (pc := 735) d_law_735 rfl rfl ?_
  refine k_iload C 4 (pc := 736) d_law_736 rfl ?_
  refine k_iconst C (pc := 738) (v := (1 : Int32)) d_law_738 rfl ?_
  refine k_iadd C (pc := 739) d_law_739 ?_
  refine k_sld C (pc := 740) hX hbl hbA (lw_hin hi hL 1 (by decide)) d_law_740 ?_
  suffices J : lwK p l e s m below meth c D b Q (2000 + 8 * i) (100000 + 64 * i) ((w ++ [(o, .inl (cA 5, 1, .inr (.inl f)))]) ++ wM) 749 [(0, .ref b), (1, .ref (h 0)), (2, .ref (hm 0)), (3, .ref o), (4, .int (nI (6 * i)))] [.int (bI b1), .ref (h 0)] by
    refine k_if_eq C (pc := 741) (tgt := 748) d_law_741 (by decide) (fun c_ => ?_) (fun c_ => ?_)
    · refine k_iconst C (pc := 748) (v := (0 : Int32)) d_law_748 rfl ?_
      rw [hb1.1 c_] at J
      exact J
    · refine k_iconst C (pc := 744) (v := (1 : Int32)) d_law_744 rfl ?_
      refine k_goto C (pc := 745) (tgt := 749) d_law_745 (by decide) ?_
      rw [hb1.2 c_] at J
      exact J
  refine k_aload_n C 0 (pc := 749) d_law_749 rfl rfl ?_
  refine k_iload C 4 (pc := 750) d_law_750 rfl ?_
  refine k_iconst C (pc := 752) (v := (2 : Int32)) d_law_752 rfl ?_
  refine k_iadd C (pc := 753) d_law_753 ?_
  refine k_sld C (pc := 754) hX hbl hbA (lw_hin hi hL 2 (by decide)) d_law_754 ?_
  refine k_aload_n C 0 (pc := 755) d_law_755 rfl rfl ?_
  refine k_iload C 4 (pc := 756) d_law_756 rfl ?_
  refine k_iconst C (pc := 758) (v := (3 : Int32)) d_law_758 rfl ?_
  refine k_iadd C (pc := 759) d_law_759 ?_
  refine k_sld C (pc := 760) hX hbl hbA (lw_hin hi hL 3 (by decide)) d_law_760 ?_
  refine k_aload_n C 3 (pc := 761) d_law_761 rfl rfl ?_
  refine kx_onL C (pc := 762) (ky_runS C hE (As := [.ref (h 0), .int (bI b1), .int (xs (nI (6 * i) + (2 : Int32)).toNatClampNeg), .int (xs (nI (6 * i) + (3 : Int32)).toNatClampNeg), .ref o]) (rest := []) (wl_pageOf l D cA h ab ac ar hst b1 (xs (nI (6 * i) + (2 : Int32)).toNatClampNeg) (xs (nI (6 * i) + (3 : Int32)).toNatClampNeg) hI o f) (ky_cw C tYL_pageOf tW_4_84 tW_1_0 tW_4_85 okL_pageOf rfl rfl ⟨Nat.le_of_ble_eq_true rfl, Nat.le_of_ble_eq_true rfl⟩) rfl rfl (Nat.le_of_ble_eq_true rfl) d_law_762 ⟨hcl 2 (by decide), hsl 12 (by decide)⟩) (fun v w1 h_ => by obtain ⟨r, rfl, -, w2, f2, rfl, h1, -⟩ := h_; rw [List.map_append, List.map_append, h1.ad, hI.ad]; rfl) (fun E w1 h_ => h_.elim) (fun E w1 hx => hx.elim) (fun v w1 hv => ?_)
  obtain ⟨k1, rfl, e1, w2, f2, rfl, hI1, ho⟩ := hv
  refine k_eq (pc := 765) (ws' := ((w2 ++ [(o, .inl (cA 5, 1, .inr (.inl f2)))]) ++ wM)) (st' := [.int k1]) rfl rfl rfl ?_
  refine k_widen (k := 2000 + 8 * i + 8) (n := 100000 + 64 * i + 64) (by omega) (by omega) ?_
  refine k_istore C (pc := 765) d_law_765 (Nat.lt_of_lt_of_le (Nat.lt_succ_self _) (Nat.le_of_ble_eq_true rfl)) (lv' := [(5, .int k1), (0, .ref b), (1, .ref (h 0)), (2, .ref (hm 0)), (3, .ref o), (4, .int (nI (6 * i)))]) rfl ?_
  refine k_aload_n C 3 (pc := 767) d_law_767 rfl rfl ?_
  refine k_aload_n C 1 (pc := 768) d_law_768 rfl rfl ?_
  refine k_iload C 5 (pc := 769) d_law_769 rfl ?_
  refine k_iconst C (pc := 771) (v := (1 : Int32)) d_law_771 rfl ?_
  refine k_iadd C (pc := 772) d_law_772 ?_
  refine k_sld C (pc := 773) hX hbl hbA (lw_hin hi hL 1 (by decide)) d_law_773 ?_
  suffices J : lwK p l e s m below meth c D b Q (2000 + 8 * i + 8) (100000 + 64 * i + 64) ((w2 ++ [(o, .inl (cA 5, 1, .inr (.inl f2)))]) ++ wM) 782 [(5, .int k1), (0, .ref b), (1, .ref (h 0)), (2, .ref (hm 0)), (3, .ref o), (4, .int (nI (6 * i)))] [.int (bI b1), .ref (hm 0)] by
    refine k_if_eq C (pc := 774) (tgt := 781) d_law_774 (by decide) (fun c_ => ?_) (fun c_ => ?_)
    · refine k_iconst C (pc := 781) (v := (0 : Int32)) d_law_781 rfl ?_
      rw [hb1.1 c_] at J
      exact J
    · refine k_iconst C (pc := 777) (v := (1 : Int32)) d_law_777 rfl ?_
      refine k_goto C (pc := 778) (tgt := 782) d_law_778 (by decide) ?_
      rw [hb1.2 c_] at J
      exact J
  refine k_aload_n C 1 (pc := 782) d_law_782 rfl rfl ?_
  refine k_iload C 5 (pc := 783) d_law_783 rfl ?_
  refine k_iconst C (pc := 785) (v := (2 : Int32)) d_law_785 rfl ?_
  refine k_iadd C (pc := 786) d_law_786 ?_
  refine k_sld C (pc := 787) hX hbl hbA (lw_hin hi hL 2 (by decide)) d_law_787 ?_
  refine k_aload_n C 1 (pc := 788) d_law_788 rfl rfl ?_
  refine k_iload C 5 (pc := 789) d_law_789 rfl ?_
  refine k_iconst C (pc := 791) (v := (3 : Int32)) d_law_791 rfl ?_
  refine k_iadd C (pc := 792) d_law_792 ?_
  refine k_sld C (pc := 793) hX hbl hbA (lw_hin hi hL 3 (by decide)) d_law_793 ?_
  refine k_onR C (pc := 794) (k_runV C (As := [.int (bI b1), .int (xs (nI (6 * i) + (2 : Int32)).toNatClampNeg), .int (xs (nI (6 * i) + (3 : Int32)).toNatClampNeg)]) (rest := []) (ci := 7) (q0 := 0) (mi_pageOf l D cA hm rH rL rC rP r1 r2 r3 b1 (xs (nI (6 * i) + (2 : Int32)).toNatClampNeg) (xs (nI (6 * i) + (3 : Int32)).toNatClampNeg) hI.ok hI.n8 hM) ⟨k_cwB C tW_6_31 tW_6_28 tW_1_8 okX7_pageOf rfl rfl ⟨Nat.le_of_ble_eq_true rfl, Nat.le_of_ble_eq_true rfl⟩, C.w tW_6_29, C.w tW_6_30⟩ (by rw [hwM]; rfl) rfl rfl rfl rfl (Nat.le_of_ble_eq_true rfl) d_law_794 ⟨hcl 8 (by decide), hsl 64 (by decide)⟩) (fun v w4 hv => ?_)
  obtain ⟨x2, rfl, e2, S1, hN, hM1⟩ := hv
  have hI2 := hI1.near hN
  refine k_eq (pc := 797) (ws' := ((w2 ++ [(o, .inl (cA 5, 1, .inr (.inl f2)))]) ++ w4)) (st' := [.int x2]) rfl rfl rfl ?_
  refine k_widen (k := 2000 + 8 * i + 8) (n := 100000 + 64 * i + 64) (by omega) (by omega) ?_
  refine k_istore C (pc := 797) d_law_797 (Nat.lt_of_lt_of_le (Nat.lt_succ_self _) (Nat.le_of_ble_eq_true rfl)) (lv' := [(6, .int x2), (5, .int k1), (0, .ref b), (1, .ref (h 0)), (2, .ref (hm 0)), (3, .ref o), (4, .int (nI (6 * i)))]) rfl ?_
  refine k_aload_n C 4 (pc := 799) d_law_799 rfl rfl ?_
  obtain ⟨fsM1, tM1, hwM1⟩ := hM1.hd
  refine k_onR C (pc := 800) (k_runV C (As := []) (rest := []) (ci := 7) (q0 := 0) (mi_thrown l D cA hm rH rL rC rP r1 r2 r3 hI2.ok hI2.n8 hM1) ⟨k_cwB C tW_5_43 tW_5_40 tW_1_8 okX7_thrown rfl rfl ⟨Nat.le_of_ble_eq_true rfl, Nat.le_of_ble_eq_true rfl⟩, C.w tW_5_41, C.w tW_5_42⟩ (by rw [hwM1]; rfl) rfl rfl rfl rfl (Nat.le_of_ble_eq_true rfl) d_law_800 ⟨hcl 8 (by decide), hsl 64 (by decide)⟩) (fun v w4 hv => ?_)
  obtain ⟨t1, rfl, e3, hM2⟩ := hv
  refine k_eq (pc := 803) (ws' := ((w2 ++ [(o, .inl (cA 5, 1, .inr (.inl f2)))]) ++ w4)) (st' := [.int t1]) rfl rfl rfl ?_
  refine k_widen (k := 2000 + 8 * i + 8) (n := 100000 + 64 * i + 64) (by omega) (by omega) ?_
  refine k_iload C 1 (pc := 803) d_law_803 rfl ?_
  refine k_icmp_eq C (pc := 805) (tgt := 810) d_law_805 (by decide) (fun _ => ?_) (fun c_ => absurd (e3.trans e1.symm) c_)
  refine k_iload C 1 (pc := 810) d_law_810 rfl ?_
  have T2 : lwK p l e s m below meth c D b Q (2000 + 8 * i + 8) (100000 + 64 * i + 64) ((w2 ++ [(o, .inl (cA 5, 1, .inr (.inl f2)))]) ++ w4) 827 [(6, .int x2), (5, .int k1), (0, .ref b), (1, .ref (h 0)), (2, .ref (hm 0)), (3, .ref o), (4, .int (nI (6 * i)))] [] := by
    refine k_goto C (pc := 827) (tgt := 1412) d_law_827 (by decide) ?_
    refine k_lv (pc := 1412) [2, 3, 4, 5, 6] (lv' := [(0, .ref b), (1, .ref (h 0)), (2, .ref (hm 0)), (3, .ref o), (4, .int (nI (6 * i)))]) rfl ?_
    exact nx _ S1 _ _ _ hI2 hM2
  refine k_if_ne C (pc := 812) (tgt := 827) d_law_812 (by decide) (fun _ => T2) (fun c_ => ?_)
  refine k_aload_n C 5 (pc := 815) d_law_815 rfl rfl ?_
  refine k_iconst C (pc := 816) (v := (0 : Int32)) d_law_816 rfl ?_
  refine k_lald C (pc := 817) w2.length (cc_get2 _ _ _) (vp_in_nI (n := 0) (by decide) (by decide)) d_law_817 ?_
  refine k_iload C 0 (pc := 818) d_law_818 rfl ?_
  have hv : f2 0 = x2.toInt64 := (ho (e1.symm.trans c_)).trans (congrArg Int32.toInt64 e2).symm
  refine k_i2l C (pc := 820) (v := x2.toInt64) d_law_820 rfl ?_
  refine k_lcmp C (pc := 821) d_law_821 ?_
  have hz : lg_cmp (f2 (0 : Int32).toNatClampNeg) x2.toInt64 = 0 := by
    show lg_cmp (f2 0) _ = 0
    rw [hv]
    exact lg_self _
  exact k_if_eq C (pc := 822) (tgt := 827) d_law_822 (by decide) (fun _ => T2) (fun c_ => absurd hz c_)
theorem d_law_830 : decode code 830 = .ok (.aload_n 1, 1) := by decide +kernel
theorem d_law_831 : decode code 831 = .ok (.aload_n 0, 1) := by decide +kernel
theorem d_law_832 : decode code 832 = .ok (.iload 4, 2) := by decide +kernel
theorem d_law_834 : decode code 834 = .ok (.iconst 1, 1) := by decide +kernel
theorem d_law_835 : decode code 835 = .ok (.iadd, 1) := by decide +kernel
theorem d_law_836 : decode code 836 = .ok (.iaload, 1) := by decide +kernel
theorem d_law_837 : decode code 837 = .ok (.aload_n 3, 1) := by decide +kernel
theorem d_law_838 : decode code 838 = .ok (.invokestatic 116, 3) := by decide +kernel
theorem d_law_841 : decode code 841 = .ok (.istore 5, 2) := by decide +kernel
theorem d_law_843 : decode code 843 = .ok (.aload_n 2, 1) := by decide +kernel
theorem d_law_844 : decode code 844 = .ok (.aload_n 0, 1) := by decide +kernel
theorem d_law_845 : decode code 845 = .ok (.iload 4, 2) := by decide +kernel
theorem d_law_847 : decode code 847 = .ok (.iconst 1, 1) := by decide +kernel
theorem d_law_848 : decode code 848 = .ok (.iadd, 1) := by decide +kernel
theorem d_law_849 : decode code 849 = .ok (.iaload, 1) := by decide +kernel
theorem d_law_850 : decode code 850 = .ok (.invokevirtual 118, 3) := by decide +kernel
theorem d_law_853 : decode code 853 = .ok (.istore 6, 2) := by decide +kernel
theorem d_law_855 : decode code 855 = .ok (.aload_n 2, 1) := by decide +kernel
theorem d_law_856 : decode code 856 = .ok (.invokevirtual 83, 3) := by decide +kernel
theorem d_law_859 : decode code 859 = .ok (.iload 5, 2) := by decide +kernel
theorem d_law_861 : decode code 861 = .ok (.if_icmp .eq 5, 3) := by decide +kernel
theorem d_law_866 : decode code 866 = .ok (.iload 5, 2) := by decide +kernel
theorem d_law_868 : decode code 868 = .ok (.ifCond .ne 15, 3) := by decide +kernel
theorem d_law_871 : decode code 871 = .ok (.aload_n 3, 1) := by decide +kernel
theorem d_law_872 : decode code 872 = .ok (.iconst 0, 1) := by decide +kernel
theorem d_law_873 : decode code 873 = .ok (.laload, 1) := by decide +kernel
theorem d_law_874 : decode code 874 = .ok (.iload 6, 2) := by decide +kernel
theorem d_law_876 : decode code 876 = .ok (.i2l, 1) := by decide +kernel
theorem d_law_877 : decode code 877 = .ok (.lcmp, 1) := by decide +kernel
theorem d_law_878 : decode code 878 = .ok (.ifCond .eq 5, 3) := by decide +kernel
theorem d_law_883 : decode code 883 = .ok (.goto 529, 3) := by decide +kernel
set_option maxHeartbeats 1000000 in
theorem law_c10 {p : Program} {l : Launch} {e : Env} {s : State} {m : MethodId} {below : List Frame} {meth : Method} {c : Code} {D : va_G} {cA : Nat → ClassId} {b L : Nat} {xs : Nat → Int32} (C : Cx p s m meth c code 9 #[Value.ref b] lw_tbl "WidowWatchLaw" D cA (fun q => s.heap.size ≤ q)) (hE : EvY D cA (fun q => s.heap.size ≤ q) s s.heap) (hst : l.stackTraces = false) (hX : va_X b L xs s s.heap) (hbl : b < s.heap.size) (o : Nat) (h ab ac ar hm rH rL rC rP r1 r2 r3 : Nat → Nat) {Q : State → Prop} (i : Nat) (hi : 6 * i + 6 ≤ L) (hL : L ≤ 3072) {f : Nat → Int64} {S : ivS} {th : Int32} {w wM : va_W} (hI : ivI cA h ab ac ar S false w) (hM : imI cA hm rH rL rC rP r1 r2 r3 S th wM) (nx : ∀ (f : Nat → Int64) (S : ivS) (th : Int32) (w wM : va_W), ivI cA h ab ac ar S false w → imI cA hm rH rL rC rP r1 r2 r3 S th wM → lwK p l e s m below meth c D b Q (2000 + 8 * i + 8) (100000 + 64 * i + 64) ((w ++ [(o, .inl (cA 5, 1, .inr (.inl f)))]) ++ wM) 1412 [(0, .ref b), (1, .ref (h 0)), (2, .ref (hm 0)), (3, .ref o), (4, .int (nI (6 * i)))] []) : lwK p l e s m below meth c D b Q (2000 + 8 * i) (100000 + 64 * i) ((w ++ [(o, .inl (cA 5, 1, .inr (.inl f)))]) ++ wM) 830 [(0, .ref b), (1, .ref (h 0)), (2, .ref (hm 0)), (3, .ref o), (4, .int (nI (6 * i)))] [] := by
  have hbA : ¬ (fun q => s.heap.size ≤ q) b := Nat.not_le.mpr hbl
  have hcl : ∀ j, j ≤ 8 → 2000 + 8 * i + j ≤ room_1.cells := fun j hj => by
    show _ ≤ 601024
    omega
  have hsl : ∀ j, j ≤ 64 → 100000 + 64 * i + j ≤ room_1.slots := fun j hj => by
    show _ ≤ 7293034
    omega
  obtain ⟨fs, t, hw⟩ := hI.hd
  obtain ⟨fsM, tM, hwM⟩ := hM.hd
  refine k_aload_n C 1 (pc := 830) d_law_830 rfl rfl ?_
  refine k_aload_n C 0 (pc := 831) d_law_831 rfl rfl ?_
  refine k_iload C 4 (pc := 832) d_law_832 rfl ?_
  refine k_iconst C (pc := 834) (v := (1 : Int32)) d_law_834 rfl ?_
  refine k_iadd C (pc := 835) d_law_835 ?_
  refine k_sld C (pc := 836) hX hbl hbA (lw_hin hi hL 1 (by decide)) d_law_836 ?_
  refine k_aload_n C 3 (pc := 837) d_law_837 rfl rfl ?_
  refine kx_onL C (pc := 838) (ky_runS C hE (As := [.ref (h 0), .int (xs (nI (6 * i) + (1 : Int32)).toNatClampNeg), .ref o]) (rest := []) (wl_help l D cA h ab ac ar hst (xs (nI (6 * i) + (1 : Int32)).toNatClampNeg) hI o f) (ky_cw C tYL_help tW_4_96 tW_1_0 tW_4_97 okL_help rfl rfl ⟨Nat.le_of_ble_eq_true rfl, Nat.le_of_ble_eq_true rfl⟩) rfl rfl (Nat.le_of_ble_eq_true rfl) d_law_838 ⟨hcl 1 (by decide), hsl 6 (by decide)⟩) (fun v w1 h_ => by obtain ⟨r, rfl, -, w2, f2, rfl, h1, -⟩ := h_; rw [List.map_append, List.map_append, h1.ad, hI.ad]; rfl) (fun E w1 h_ => h_.elim) (fun E w1 hx => hx.elim) (fun v w1 hv => ?_)
  obtain ⟨k1, rfl, e1, w2, f2, rfl, hI1, ho⟩ := hv
  refine k_eq (pc := 841) (ws' := ((w2 ++ [(o, .inl (cA 5, 1, .inr (.inl f2)))]) ++ wM)) (st' := [.int k1]) rfl rfl rfl ?_
  refine k_widen (k := 2000 + 8 * i + 8) (n := 100000 + 64 * i + 64) (by omega) (by omega) ?_
  refine k_istore C (pc := 841) d_law_841 (Nat.lt_of_lt_of_le (Nat.lt_succ_self _) (Nat.le_of_ble_eq_true rfl)) (lv' := [(5, .int k1), (0, .ref b), (1, .ref (h 0)), (2, .ref (hm 0)), (3, .ref o), (4, .int (nI (6 * i)))]) rfl ?_
  refine k_aload_n C 3 (pc := 843) d_law_843 rfl rfl ?_
  refine k_aload_n C 1 (pc := 844) d_law_844 rfl rfl ?_
  refine k_iload C 5 (pc := 845) d_law_845 rfl ?_
  refine k_iconst C (pc := 847) (v := (1 : Int32)) d_law_847 rfl ?_
  refine k_iadd C (pc := 848) d_law_848 ?_
  refine k_sld C (pc := 849) hX hbl hbA (lw_hin hi hL 1 (by decide)) d_law_849 ?_
  refine k_onR C (pc := 850) (k_runV C (As := [.int (xs (nI (6 * i) + (1 : Int32)).toNatClampNeg)]) (rest := []) (ci := 7) (q0 := 0) (mi_help l D cA hm rH rL rC rP r1 r2 r3 (xs (nI (6 * i) + (1 : Int32)).toNatClampNeg) hI.ok hI.n8 hM) ⟨k_cwB C tW_6_35 tW_6_32 tW_1_8 okX7_help rfl rfl ⟨Nat.le_of_ble_eq_true rfl, Nat.le_of_ble_eq_true rfl⟩, C.w tW_6_33, C.w tW_6_34⟩ (by rw [hwM]; rfl) rfl rfl rfl rfl (Nat.le_of_ble_eq_true rfl) d_law_850 ⟨hcl 8 (by decide), hsl 64 (by decide)⟩) (fun v w4 hv => ?_)
  obtain ⟨x2, rfl, e2, S1, hN, hM1⟩ := hv
  have hI2 := hI1.near hN
  refine k_eq (pc := 853) (ws' := ((w2 ++ [(o, .inl (cA 5, 1, .inr (.inl f2)))]) ++ w4)) (st' := [.int x2]) rfl rfl rfl ?_
  refine k_widen (k := 2000 + 8 * i + 8) (n := 100000 + 64 * i + 64) (by omega) (by omega) ?_
  refine k_istore C (pc := 853) d_law_853 (Nat.lt_of_lt_of_le (Nat.lt_succ_self _) (Nat.le_of_ble_eq_true rfl)) (lv' := [(6, .int x2), (5, .int k1), (0, .ref b), (1, .ref (h 0)), (2, .ref (hm 0)), (3, .ref o), (4, .int (nI (6 * i)))]) rfl ?_
  refine k_aload_n C 4 (pc := 855) d_law_855 rfl rfl ?_
  obtain ⟨fsM1, tM1, hwM1⟩ := hM1.hd
  refine k_onR C (pc := 856) (k_runV C (As := []) (rest := []) (ci := 7) (q0 := 0) (mi_thrown l D cA hm rH rL rC rP r1 r2 r3 hI2.ok hI2.n8 hM1) ⟨k_cwB C tW_5_43 tW_5_40 tW_1_8 okX7_thrown rfl rfl ⟨Nat.le_of_ble_eq_true rfl, Nat.le_of_ble_eq_true rfl⟩, C.w tW_5_41, C.w tW_5_42⟩ (by rw [hwM1]; rfl) rfl rfl rfl rfl (Nat.le_of_ble_eq_true rfl) d_law_856 ⟨hcl 8 (by decide), hsl 64 (by decide)⟩) (fun v w4 hv => ?_)
  obtain ⟨t1, rfl, e3, hM2⟩ := hv
  refine k_eq (pc := 859) (ws' := ((w2 ++ [(o, .inl (cA 5, 1, .inr (.inl f2)))]) ++ w4)) (st' := [.int t1]) rfl rfl rfl ?_
  refine k_widen (k := 2000 + 8 * i + 8) (n := 100000 + 64 * i + 64) (by omega) (by omega) ?_
  refine k_iload C 1 (pc := 859) d_law_859 rfl ?_
  refine k_icmp_eq C (pc := 861) (tgt := 866) d_law_861 (by decide) (fun _ => ?_) (fun c_ => absurd (e3.trans e1.symm) c_)
  refine k_iload C 1 (pc := 866) d_law_866 rfl ?_
  have T2 : lwK p l e s m below meth c D b Q (2000 + 8 * i + 8) (100000 + 64 * i + 64) ((w2 ++ [(o, .inl (cA 5, 1, .inr (.inl f2)))]) ++ w4) 883 [(6, .int x2), (5, .int k1), (0, .ref b), (1, .ref (h 0)), (2, .ref (hm 0)), (3, .ref o), (4, .int (nI (6 * i)))] [] := by
    refine k_goto C (pc := 883) (tgt := 1412) d_law_883 (by decide) ?_
    refine k_lv (pc := 1412) [2, 3, 4, 5, 6] (lv' := [(0, .ref b), (1, .ref (h 0)), (2, .ref (hm 0)), (3, .ref o), (4, .int (nI (6 * i)))]) rfl ?_
    exact nx _ S1 _ _ _ hI2 hM2
  refine k_if_ne C (pc := 868) (tgt := 883) d_law_868 (by decide) (fun _ => T2) (fun c_ => ?_)
  refine k_aload_n C 5 (pc := 871) d_law_871 rfl rfl ?_
  refine k_iconst C (pc := 872) (v := (0 : Int32)) d_law_872 rfl ?_
  refine k_lald C (pc := 873) w2.length (cc_get2 _ _ _) (vp_in_nI (n := 0) (by decide) (by decide)) d_law_873 ?_
  refine k_iload C 0 (pc := 874) d_law_874 rfl ?_
  have hv : f2 0 = x2.toInt64 := (ho (e1.symm.trans c_)).trans (congrArg Int32.toInt64 e2).symm
  refine k_i2l C (pc := 876) (v := x2.toInt64) d_law_876 rfl ?_
  refine k_lcmp C (pc := 877) d_law_877 ?_
  have hz : lg_cmp (f2 (0 : Int32).toNatClampNeg) x2.toInt64 = 0 := by
    show lg_cmp (f2 0) _ = 0
    rw [hv]
    exact lg_self _
  exact k_if_eq C (pc := 878) (tgt := 883) d_law_878 (by decide) (fun _ => T2) (fun c_ => absurd hz c_)
theorem d_law_886 : decode code 886 = .ok (.aload_n 1, 1) := by decide +kernel
theorem d_law_887 : decode code 887 = .ok (.invokevirtual 119, 3) := by decide +kernel
theorem d_law_890 : decode code 890 = .ok (.aload_n 2, 1) := by decide +kernel
theorem d_law_891 : decode code 891 = .ok (.invokevirtual 122, 3) := by decide +kernel
theorem d_law_894 : decode code 894 = .ok (.if_icmp .eq 518, 3) := by decide +kernel
set_option maxHeartbeats 1000000 in
theorem law_c11 {p : Program} {l : Launch} {e : Env} {s : State} {m : MethodId} {below : List Frame} {meth : Method} {c : Code} {D : va_G} {cA : Nat → ClassId} {b L : Nat} {xs : Nat → Int32} (C : Cx p s m meth c code 9 #[Value.ref b] lw_tbl "WidowWatchLaw" D cA (fun q => s.heap.size ≤ q)) (hE : EvY D cA (fun q => s.heap.size ≤ q) s s.heap) (hst : l.stackTraces = false) (hX : va_X b L xs s s.heap) (hbl : b < s.heap.size) (o : Nat) (h ab ac ar hm rH rL rC rP r1 r2 r3 : Nat → Nat) {Q : State → Prop} (i : Nat) (hi : 6 * i + 6 ≤ L) (hL : L ≤ 3072) {f : Nat → Int64} {S : ivS} {th : Int32} {w wM : va_W} (hI : ivI cA h ab ac ar S false w) (hM : imI cA hm rH rL rC rP r1 r2 r3 S th wM) (nx : ∀ (f : Nat → Int64) (S : ivS) (th : Int32) (w wM : va_W), ivI cA h ab ac ar S false w → imI cA hm rH rL rC rP r1 r2 r3 S th wM → lwK p l e s m below meth c D b Q (2000 + 8 * i + 8) (100000 + 64 * i + 64) ((w ++ [(o, .inl (cA 5, 1, .inr (.inl f)))]) ++ wM) 1412 [(0, .ref b), (1, .ref (h 0)), (2, .ref (hm 0)), (3, .ref o), (4, .int (nI (6 * i)))] []) : lwK p l e s m below meth c D b Q (2000 + 8 * i) (100000 + 64 * i) ((w ++ [(o, .inl (cA 5, 1, .inr (.inl f)))]) ++ wM) 886 [(0, .ref b), (1, .ref (h 0)), (2, .ref (hm 0)), (3, .ref o), (4, .int (nI (6 * i)))] [] := by
  have hbA : ¬ (fun q => s.heap.size ≤ q) b := Nat.not_le.mpr hbl
  have hcl : ∀ j, j ≤ 8 → 2000 + 8 * i + j ≤ room_1.cells := fun j hj => by
    show _ ≤ 601024
    omega
  have hsl : ∀ j, j ≤ 64 → 100000 + 64 * i + j ≤ room_1.slots := fun j hj => by
    show _ ≤ 7293034
    omega
  obtain ⟨fs, t, hw⟩ := hI.hd
  obtain ⟨fsM, tM, hwM⟩ := hM.hd
  refine k_aload_n C 1 (pc := 886) d_law_886 rfl rfl ?_
  refine k_eq (pc := 887) (ws' := w ++ ([(o, .inl (cA 5, 1, .inr (.inl f)))] ++ wM)) (List.append_assoc _ _ _) rfl rfl ?_
  refine k_onL C (pc := 887) (k_runV C (As := []) (rest := []) (ci := 6) (q0 := 0) (xi_saved l D cA h ab ac ar  hI) ⟨k_cwB C tW_2_13 tW_2_10 tW_1_1 okX6_saved rfl rfl ⟨Nat.le_of_ble_eq_true rfl, Nat.le_of_ble_eq_true rfl⟩, C.w tW_2_11, C.w tW_2_12⟩ (by rw [hw]; rfl) rfl rfl rfl rfl (Nat.le_of_ble_eq_true rfl) d_law_887 ⟨hcl 0 (by decide), hsl 0 (by decide)⟩) (fun v w1 hv => ?_)
  obtain ⟨x1, rfl, -, e1, hI1⟩ := hv
  refine k_eq (pc := 890) (ws' := ((w1 ++ [(o, .inl (cA 5, 1, .inr (.inl f)))]) ++ wM)) (st' := [.int x1]) (List.append_assoc _ _ _).symm rfl rfl ?_
  refine k_widen (k := 2000 + 8 * i + 8) (n := 100000 + 64 * i + 64) (by omega) (by omega) ?_
  refine k_aload_n C 2 (pc := 890) d_law_890 rfl rfl ?_
  refine k_onR C (pc := 891) (k_runV C (As := []) (rest := [.int x1]) (ci := 7) (q0 := 0) (mi_saved l D cA hm rH rL rC rP r1 r2 r3  hI.ok hI.n8 hM) ⟨k_cwB C tW_6_43 tW_6_40 tW_1_8 okX7_saved rfl rfl ⟨Nat.le_of_ble_eq_true rfl, Nat.le_of_ble_eq_true rfl⟩, C.w tW_6_41, C.w tW_6_42⟩ (by rw [hwM]; rfl) rfl rfl rfl rfl (Nat.le_of_ble_eq_true rfl) d_law_891 ⟨hcl 8 (by decide), hsl 64 (by decide)⟩) (fun v w4 hv => ?_)
  obtain ⟨x2, rfl, e2, S1, hN, hM1⟩ := hv
  have hI2 := hI1.near hN
  refine k_eq (pc := 894) (ws' := ((w1 ++ [(o, .inl (cA 5, 1, .inr (.inl f)))]) ++ w4)) (st' := [.int x2, .int x1]) rfl rfl rfl ?_
  refine k_widen (k := 2000 + 8 * i + 8) (n := 100000 + 64 * i + 64) (by omega) (by omega) ?_
  refine k_icmp_eq C (pc := 894) (tgt := 1412) d_law_894 (by decide) (fun _ => ?_) (fun c_ => absurd (e1.trans e2.symm) c_)
  refine k_lv (pc := 1412) [0, 1, 2, 3, 4] (lv' := [(0, .ref b), (1, .ref (h 0)), (2, .ref (hm 0)), (3, .ref o), (4, .int (nI (6 * i)))]) rfl ?_
  exact nx _ S1 _ _ _ hI2 hM1
theorem d_law_899 : decode code 899 = .ok (.aload_n 1, 1) := by decide +kernel
theorem d_law_900 : decode code 900 = .ok (.invokevirtual 123, 3) := by decide +kernel
theorem d_law_903 : decode code 903 = .ok (.f2d, 1) := by decide +kernel
theorem d_law_904 : decode code 904 = .ok (.dstore 5, 2) := by decide +kernel
theorem d_law_906 : decode code 906 = .ok (.aload_n 2, 1) := by decide +kernel
theorem d_law_907 : decode code 907 = .ok (.invokevirtual 127, 3) := by decide +kernel
theorem d_law_910 : decode code 910 = .ok (.f2d, 1) := by decide +kernel
theorem d_law_911 : decode code 911 = .ok (.dstore 7, 2) := by decide +kernel
theorem d_law_913 : decode code 913 = .ok (.dload 5, 2) := by decide +kernel
theorem d_law_915 : decode code 915 = .ok (.dload 7, 2) := by decide +kernel
theorem d_law_917 : decode code 917 = .ok (.dcmp .l, 1) := by decide +kernel
theorem d_law_918 : decode code 918 = .ok (.ifCond .eq 21, 3) := by decide +kernel
theorem d_law_939 : decode code 939 = .ok (.goto 473, 3) := by decide +kernel
set_option maxHeartbeats 1000000 in
theorem law_c12 {p : Program} {l : Launch} {e : Env} {s : State} {m : MethodId} {below : List Frame} {meth : Method} {c : Code} {D : va_G} {cA : Nat → ClassId} {b L : Nat} {xs : Nat → Int32} (C : Cx p s m meth c code 9 #[Value.ref b] lw_tbl "WidowWatchLaw" D cA (fun q => s.heap.size ≤ q)) (hE : EvY D cA (fun q => s.heap.size ≤ q) s s.heap) (hst : l.stackTraces = false) (hX : va_X b L xs s s.heap) (hbl : b < s.heap.size) (o : Nat) (h ab ac ar hm rH rL rC rP r1 r2 r3 : Nat → Nat) {Q : State → Prop} (i : Nat) (hi : 6 * i + 6 ≤ L) (hL : L ≤ 3072) {f : Nat → Int64} {S : ivS} {th : Int32} {w wM : va_W} (hI : ivI cA h ab ac ar S false w) (hM : imI cA hm rH rL rC rP r1 r2 r3 S th wM) (nx : ∀ (f : Nat → Int64) (S : ivS) (th : Int32) (w wM : va_W), ivI cA h ab ac ar S false w → imI cA hm rH rL rC rP r1 r2 r3 S th wM → lwK p l e s m below meth c D b Q (2000 + 8 * i + 8) (100000 + 64 * i + 64) ((w ++ [(o, .inl (cA 5, 1, .inr (.inl f)))]) ++ wM) 1412 [(0, .ref b), (1, .ref (h 0)), (2, .ref (hm 0)), (3, .ref o), (4, .int (nI (6 * i)))] []) : lwK p l e s m below meth c D b Q (2000 + 8 * i) (100000 + 64 * i) ((w ++ [(o, .inl (cA 5, 1, .inr (.inl f)))]) ++ wM) 899 [(0, .ref b), (1, .ref (h 0)), (2, .ref (hm 0)), (3, .ref o), (4, .int (nI (6 * i)))] [] := by
  have hbA : ¬ (fun q => s.heap.size ≤ q) b := Nat.not_le.mpr hbl
  have hcl : ∀ j, j ≤ 8 → 2000 + 8 * i + j ≤ room_1.cells := fun j hj => by
    show _ ≤ 601024
    omega
  have hsl : ∀ j, j ≤ 64 → 100000 + 64 * i + j ≤ room_1.slots := fun j hj => by
    show _ ≤ 7293034
    omega
  obtain ⟨fs, t, hw⟩ := hI.hd
  obtain ⟨fsM, tM, hwM⟩ := hM.hd
  have hfn : vf_n64 (FP.f2d (fuV S.1)) := f2d_n (fuV_n hI.ok (lyB_ok hI.ok (Nat.le_refl _)))
  refine k_aload_n C 1 (pc := 899) d_law_899 rfl rfl ?_
  refine k_eq (pc := 900) (ws' := w ++ ([(o, .inl (cA 5, 1, .inr (.inl f)))] ++ wM)) (List.append_assoc _ _ _) rfl rfl ?_
  refine k_onL C (pc := 900) (k_runV C (As := []) (rest := []) (ci := 6) (q0 := 0) (xi_fullness l D cA h ab ac ar  hI) ⟨k_cwB C tW_2_170 tW_2_167 tW_1_1 okX6_fullness rfl rfl ⟨Nat.le_of_ble_eq_true rfl, Nat.le_of_ble_eq_true rfl⟩, C.w tW_2_168, C.w tW_2_169⟩ (by rw [hw]; rfl) rfl rfl rfl rfl (Nat.le_of_ble_eq_true rfl) d_law_900 ⟨hcl 0 (by decide), hsl 0 (by decide)⟩) (fun v w1 hv => ?_)
  obtain ⟨x1, rfl, e1, hI1⟩ := hv
  refine k_eq (pc := 903) (ws' := ((w1 ++ [(o, .inl (cA 5, 1, .inr (.inl f)))]) ++ wM)) (st' := [.float x1]) (List.append_assoc _ _ _).symm rfl rfl ?_
  refine k_widen (k := 2000 + 8 * i + 8) (n := 100000 + 64 * i + 64) (by omega) (by omega) ?_
  refine k_f2d C (pc := 903) d_law_903 (by rw [e1]; exact hfn) ?_
  refine k_dstore C (pc := 904) d_law_904 (Nat.lt_of_lt_of_le (Nat.lt_succ_self _) (Nat.le_of_ble_eq_true rfl)) (lv' := [(5, .double (FP.f2d x1)), (0, .ref b), (1, .ref (h 0)), (2, .ref (hm 0)), (3, .ref o), (4, .int (nI (6 * i)))]) rfl ?_
  refine k_aload_n C 3 (pc := 906) d_law_906 rfl rfl ?_
  refine k_onR C (pc := 907) (k_runV C (As := []) (rest := []) (ci := 7) (q0 := 0) (mi_fullness l D cA hm rH rL rC rP r1 r2 r3  hI.ok hI.n8 hM) ⟨k_cwB C tW_6_47 tW_6_44 tW_1_8 okX7_fullness rfl rfl ⟨Nat.le_of_ble_eq_true rfl, Nat.le_of_ble_eq_true rfl⟩, C.w tW_6_45, C.w tW_6_46⟩ (by rw [hwM]; rfl) rfl rfl rfl rfl (Nat.le_of_ble_eq_true rfl) d_law_907 ⟨hcl 8 (by decide), hsl 64 (by decide)⟩) (fun v w4 hv => ?_)
  obtain ⟨x2, rfl, e2, hM1⟩ := hv
  refine k_eq (pc := 910) (ws' := ((w1 ++ [(o, .inl (cA 5, 1, .inr (.inl f)))]) ++ w4)) (st' := [.float x2]) rfl rfl rfl ?_
  refine k_widen (k := 2000 + 8 * i + 8) (n := 100000 + 64 * i + 64) (by omega) (by omega) ?_
  refine k_f2d C (pc := 910) d_law_910 (by rw [e2]; exact hfn) ?_
  refine k_dstore C (pc := 911) d_law_911 (Nat.lt_of_lt_of_le (Nat.lt_succ_self _) (Nat.le_of_ble_eq_true rfl)) (lv' := [(7, .double (FP.f2d x2)), (5, .double (FP.f2d x1)), (0, .ref b), (1, .ref (h 0)), (2, .ref (hm 0)), (3, .ref o), (4, .int (nI (6 * i)))]) rfl ?_
  refine k_dload C 1 (pc := 913) d_law_913 rfl ?_
  refine k_dload C 0 (pc := 915) d_law_915 rfl ?_
  refine k_dcmp C (pc := 917) d_law_917 ?_
  have hz : Op.cmpValue (FP.dcmp (FP.f2d x1) (FP.f2d x2)) CmpOp.l = 0 := by
    rw [e1, e2]
    exact dcmp_s hfn
  refine k_if_eq C (pc := 918) (tgt := 939) d_law_918 (by decide) (fun _ => ?_) (fun c_ => absurd hz c_)
  refine k_goto C (pc := 939) (tgt := 1412) d_law_939 (by decide) ?_
  refine k_lv (pc := 1412) [2, 3, 4, 5, 6] (lv' := [(0, .ref b), (1, .ref (h 0)), (2, .ref (hm 0)), (3, .ref o), (4, .int (nI (6 * i)))]) rfl ?_
  exact nx _ S _ _ _ hI1 hM1
theorem d_law_942 : decode code 942 = .ok (.aload_n 1, 1) := by decide +kernel
theorem d_law_943 : decode code 943 = .ok (.aload_n 0, 1) := by decide +kernel
theorem d_law_944 : decode code 944 = .ok (.iload 4, 2) := by decide +kernel
theorem d_law_946 : decode code 946 = .ok (.iconst 1, 1) := by decide +kernel
theorem d_law_947 : decode code 947 = .ok (.iadd, 1) := by decide +kernel
theorem d_law_948 : decode code 948 = .ok (.iaload, 1) := by decide +kernel
theorem d_law_949 : decode code 949 = .ok (.aload_n 0, 1) := by decide +kernel
theorem d_law_950 : decode code 950 = .ok (.iload 4, 2) := by decide +kernel
theorem d_law_952 : decode code 952 = .ok (.iconst 2, 1) := by decide +kernel
theorem d_law_953 : decode code 953 = .ok (.iadd, 1) := by decide +kernel
theorem d_law_954 : decode code 954 = .ok (.iaload, 1) := by decide +kernel
theorem d_law_955 : decode code 955 = .ok (.aload_n 3, 1) := by decide +kernel
theorem d_law_956 : decode code 956 = .ok (.invokestatic 128, 3) := by decide +kernel
theorem d_law_959 : decode code 959 = .ok (.istore 5, 2) := by decide +kernel
theorem d_law_961 : decode code 961 = .ok (.aload_n 2, 1) := by decide +kernel
theorem d_law_962 : decode code 962 = .ok (.aload_n 0, 1) := by decide +kernel
theorem d_law_963 : decode code 963 = .ok (.iload 4, 2) := by decide +kernel
theorem d_law_965 : decode code 965 = .ok (.iconst 1, 1) := by decide +kernel
theorem d_law_966 : decode code 966 = .ok (.iadd, 1) := by decide +kernel
theorem d_law_967 : decode code 967 = .ok (.iaload, 1) := by decide +kernel
theorem d_law_968 : decode code 968 = .ok (.aload_n 0, 1) := by decide +kernel
theorem d_law_969 : decode code 969 = .ok (.iload 4, 2) := by decide +kernel
theorem d_law_971 : decode code 971 = .ok (.iconst 2, 1) := by decide +kernel
theorem d_law_972 : decode code 972 = .ok (.iadd, 1) := by decide +kernel
theorem d_law_973 : decode code 973 = .ok (.iaload, 1) := by decide +kernel
theorem d_law_974 : decode code 974 = .ok (.invokevirtual 130, 3) := by decide +kernel
theorem d_law_977 : decode code 977 = .ok (.istore 6, 2) := by decide +kernel
theorem d_law_979 : decode code 979 = .ok (.aload_n 2, 1) := by decide +kernel
theorem d_law_980 : decode code 980 = .ok (.invokevirtual 83, 3) := by decide +kernel
theorem d_law_983 : decode code 983 = .ok (.iload 5, 2) := by decide +kernel
theorem d_law_985 : decode code 985 = .ok (.if_icmp .eq 5, 3) := by decide +kernel
theorem d_law_990 : decode code 990 = .ok (.iload 5, 2) := by decide +kernel
theorem d_law_992 : decode code 992 = .ok (.ifCond .ne 15, 3) := by decide +kernel
theorem d_law_995 : decode code 995 = .ok (.aload_n 3, 1) := by decide +kernel
theorem d_law_996 : decode code 996 = .ok (.iconst 0, 1) := by decide +kernel
theorem d_law_997 : decode code 997 = .ok (.laload, 1) := by decide +kernel
theorem d_law_998 : decode code 998 = .ok (.iload 6, 2) := by decide +kernel
theorem d_law_1000 : decode code 1000 = .ok (.i2l, 1) := by decide +kernel
theorem d_law_1001 : decode code 1001 = .ok (.lcmp, 1) := by decide +kernel
theorem d_law_1002 : decode code 1002 = .ok (.ifCond .eq 5, 3) := by decide +kernel
theorem d_law_1007 : decode code 1007 = .ok (.goto 405, 3) := by decide +kernel
set_option maxHeartbeats 1000000 in
theorem law_c13 {p : Program} {l : Launch} {e : Env} {s : State} {m : MethodId} {below : List Frame} {meth : Method} {c : Code} {D : va_G} {cA : Nat → ClassId} {b L : Nat} {xs : Nat → Int32} (C : Cx p s m meth c code 9 #[Value.ref b] lw_tbl "WidowWatchLaw" D cA (fun q => s.heap.size ≤ q)) (hE : EvY D cA (fun q => s.heap.size ≤ q) s s.heap) (hst : l.stackTraces = false) (hX : va_X b L xs s s.heap) (hbl : b < s.heap.size) (o : Nat) (h ab ac ar hm rH rL rC rP r1 r2 r3 : Nat → Nat) {Q : State → Prop} (i : Nat) (hi : 6 * i + 6 ≤ L) (hL : L ≤ 3072) {f : Nat → Int64} {S : ivS} {th : Int32} {w wM : va_W} (hI : ivI cA h ab ac ar S false w) (hM : imI cA hm rH rL rC rP r1 r2 r3 S th wM) (nx : ∀ (f : Nat → Int64) (S : ivS) (th : Int32) (w wM : va_W), ivI cA h ab ac ar S false w → imI cA hm rH rL rC rP r1 r2 r3 S th wM → lwK p l e s m below meth c D b Q (2000 + 8 * i + 8) (100000 + 64 * i + 64) ((w ++ [(o, .inl (cA 5, 1, .inr (.inl f)))]) ++ wM) 1412 [(0, .ref b), (1, .ref (h 0)), (2, .ref (hm 0)), (3, .ref o), (4, .int (nI (6 * i)))] []) : lwK p l e s m below meth c D b Q (2000 + 8 * i) (100000 + 64 * i) ((w ++ [(o, .inl (cA 5, 1, .inr (.inl f)))]) ++ wM) 942 [(0, .ref b), (1, .ref (h 0)), (2, .ref (hm 0)), (3, .ref o), (4, .int (nI (6 * i)))] [] := by
  have hbA : ¬ (fun q => s.heap.size ≤ q) b := Nat.not_le.mpr hbl
  have hcl : ∀ j, j ≤ 8 → 2000 + 8 * i + j ≤ room_1.cells := fun j hj => by
    show _ ≤ 601024
    omega
  have hsl : ∀ j, j ≤ 64 → 100000 + 64 * i + j ≤ room_1.slots := fun j hj => by
    show _ ≤ 7293034
    omega
  obtain ⟨fs, t, hw⟩ := hI.hd
  obtain ⟨fsM, tM, hwM⟩ := hM.hd
  refine k_aload_n C 1 (pc := 942) d_law_942 rfl rfl ?_
  refine k_aload_n C 0 (pc := 943) d_law_943 rfl rfl ?_
  refine k_iload C 4 (pc := 944) d_law_944 rfl ?_
  refine k_iconst C (pc := 946) (v := (1 : Int32)) d_law_946 rfl ?_
  refine k_iadd C (pc := 947) d_law_947 ?_
  refine k_sld C (pc := 948) hX hbl hbA (lw_hin hi hL 1 (by decide)) d_law_948 ?_
  refine k_aload_n C 0 (pc := 949) d_law_949 rfl rfl ?_
  refine k_iload C 4 (pc := 950) d_law_950 rfl ?_
  refine k_iconst C (pc := 952) (v := (2 : Int32)) d_law_952 rfl ?_
  refine k_iadd C (pc := 953) d_law_953 ?_
  refine k_sld C (pc := 954) hX hbl hbA (lw_hin hi hL 2 (by decide)) d_law_954 ?_
  refine k_aload_n C 3 (pc := 955) d_law_955 rfl rfl ?_
  refine kx_onL C (pc := 956) (ky_runS C hE (As := [.ref (h 0), .int (xs (nI (6 * i) + (1 : Int32)).toNatClampNeg), .int (xs (nI (6 * i) + (2 : Int32)).toNatClampNeg), .ref o]) (rest := []) (wl_fix l D cA h ab ac ar hst (xs (nI (6 * i) + (1 : Int32)).toNatClampNeg) (xs (nI (6 * i) + (2 : Int32)).toNatClampNeg) hI o f) (ky_cw C tYL_fix tW_4_109 tW_1_0 tW_4_110 okL_fix rfl rfl ⟨Nat.le_of_ble_eq_true rfl, Nat.le_of_ble_eq_true rfl⟩) rfl rfl (Nat.le_of_ble_eq_true rfl) d_law_956 ⟨hcl 2 (by decide), hsl 12 (by decide)⟩) (fun v w1 h_ => by obtain ⟨r, rfl, -, w2, f2, rfl, h1, -⟩ := h_; rw [List.map_append, List.map_append, h1.ad, hI.ad]; rfl) (fun E w1 h_ => h_.elim) (fun E w1 hx => hx.elim) (fun v w1 hv => ?_)
  obtain ⟨k1, rfl, e1, w2, f2, rfl, hI1, ho⟩ := hv
  refine k_eq (pc := 959) (ws' := ((w2 ++ [(o, .inl (cA 5, 1, .inr (.inl f2)))]) ++ wM)) (st' := [.int k1]) rfl rfl rfl ?_
  refine k_widen (k := 2000 + 8 * i + 8) (n := 100000 + 64 * i + 64) (by omega) (by omega) ?_
  refine k_istore C (pc := 959) d_law_959 (Nat.lt_of_lt_of_le (Nat.lt_succ_self _) (Nat.le_of_ble_eq_true rfl)) (lv' := [(5, .int k1), (0, .ref b), (1, .ref (h 0)), (2, .ref (hm 0)), (3, .ref o), (4, .int (nI (6 * i)))]) rfl ?_
  refine k_aload_n C 3 (pc := 961) d_law_961 rfl rfl ?_
  refine k_aload_n C 1 (pc := 962) d_law_962 rfl rfl ?_
  refine k_iload C 5 (pc := 963) d_law_963 rfl ?_
  refine k_iconst C (pc := 965) (v := (1 : Int32)) d_law_965 rfl ?_
  refine k_iadd C (pc := 966) d_law_966 ?_
  refine k_sld C (pc := 967) hX hbl hbA (lw_hin hi hL 1 (by decide)) d_law_967 ?_
  refine k_aload_n C 1 (pc := 968) d_law_968 rfl rfl ?_
  refine k_iload C 5 (pc := 969) d_law_969 rfl ?_
  refine k_iconst C (pc := 971) (v := (2 : Int32)) d_law_971 rfl ?_
  refine k_iadd C (pc := 972) d_law_972 ?_
  refine k_sld C (pc := 973) hX hbl hbA (lw_hin hi hL 2 (by decide)) d_law_973 ?_
  refine k_onR C (pc := 974) (k_runV C (As := [.int (xs (nI (6 * i) + (1 : Int32)).toNatClampNeg), .int (xs (nI (6 * i) + (2 : Int32)).toNatClampNeg)]) (rest := []) (ci := 7) (q0 := 0) (mi_fix l D cA hm rH rL rC rP r1 r2 r3 (xs (nI (6 * i) + (1 : Int32)).toNatClampNeg) (xs (nI (6 * i) + (2 : Int32)).toNatClampNeg) hI.ok hI.n8 hM) ⟨k_cwB C tW_6_51 tW_6_48 tW_1_8 okX7_fix rfl rfl ⟨Nat.le_of_ble_eq_true rfl, Nat.le_of_ble_eq_true rfl⟩, C.w tW_6_49, C.w tW_6_50⟩ (by rw [hwM]; rfl) rfl rfl rfl rfl (Nat.le_of_ble_eq_true rfl) d_law_974 ⟨hcl 8 (by decide), hsl 64 (by decide)⟩) (fun v w4 hv => ?_)
  obtain ⟨x2, rfl, e2, S1, hN, hM1⟩ := hv
  have hI2 := hI1.near hN
  refine k_eq (pc := 977) (ws' := ((w2 ++ [(o, .inl (cA 5, 1, .inr (.inl f2)))]) ++ w4)) (st' := [.int x2]) rfl rfl rfl ?_
  refine k_widen (k := 2000 + 8 * i + 8) (n := 100000 + 64 * i + 64) (by omega) (by omega) ?_
  refine k_istore C (pc := 977) d_law_977 (Nat.lt_of_lt_of_le (Nat.lt_succ_self _) (Nat.le_of_ble_eq_true rfl)) (lv' := [(6, .int x2), (5, .int k1), (0, .ref b), (1, .ref (h 0)), (2, .ref (hm 0)), (3, .ref o), (4, .int (nI (6 * i)))]) rfl ?_
  refine k_aload_n C 4 (pc := 979) d_law_979 rfl rfl ?_
  obtain ⟨fsM1, tM1, hwM1⟩ := hM1.hd
  refine k_onR C (pc := 980) (k_runV C (As := []) (rest := []) (ci := 7) (q0 := 0) (mi_thrown l D cA hm rH rL rC rP r1 r2 r3 hI2.ok hI2.n8 hM1) ⟨k_cwB C tW_5_43 tW_5_40 tW_1_8 okX7_thrown rfl rfl ⟨Nat.le_of_ble_eq_true rfl, Nat.le_of_ble_eq_true rfl⟩, C.w tW_5_41, C.w tW_5_42⟩ (by rw [hwM1]; rfl) rfl rfl rfl rfl (Nat.le_of_ble_eq_true rfl) d_law_980 ⟨hcl 8 (by decide), hsl 64 (by decide)⟩) (fun v w4 hv => ?_)
  obtain ⟨t1, rfl, e3, hM2⟩ := hv
  refine k_eq (pc := 983) (ws' := ((w2 ++ [(o, .inl (cA 5, 1, .inr (.inl f2)))]) ++ w4)) (st' := [.int t1]) rfl rfl rfl ?_
  refine k_widen (k := 2000 + 8 * i + 8) (n := 100000 + 64 * i + 64) (by omega) (by omega) ?_
  refine k_iload C 1 (pc := 983) d_law_983 rfl ?_
  refine k_icmp_eq C (pc := 985) (tgt := 990) d_law_985 (by decide) (fun _ => ?_) (fun c_ => absurd (e3.trans e1.symm) c_)
  refine k_iload C 1 (pc := 990) d_law_990 rfl ?_
  have T2 : lwK p l e s m below meth c D b Q (2000 + 8 * i + 8) (100000 + 64 * i + 64) ((w2 ++ [(o, .inl (cA 5, 1, .inr (.inl f2)))]) ++ w4) 1007 [(6, .int x2), (5, .int k1), (0, .ref b), (1, .ref (h 0)), (2, .ref (hm 0)), (3, .ref o), (4, .int (nI (6 * i)))] [] := by
    refine k_goto C (pc := 1007) (tgt := 1412) d_law_1007 (by decide) ?_
    refine k_lv (pc := 1412) [2, 3, 4, 5, 6] (lv' := [(0, .ref b), (1, .ref (h 0)), (2, .ref (hm 0)), (3, .ref o), (4, .int (nI (6 * i)))]) rfl ?_
    exact nx _ S1 _ _ _ hI2 hM2
  refine k_if_ne C (pc := 992) (tgt := 1007) d_law_992 (by decide) (fun _ => T2) (fun c_ => ?_)
  refine k_aload_n C 5 (pc := 995) d_law_995 rfl rfl ?_
  refine k_iconst C (pc := 996) (v := (0 : Int32)) d_law_996 rfl ?_
  refine k_lald C (pc := 997) w2.length (cc_get2 _ _ _) (vp_in_nI (n := 0) (by decide) (by decide)) d_law_997 ?_
  refine k_iload C 0 (pc := 998) d_law_998 rfl ?_
  have hv : f2 0 = x2.toInt64 := (ho (e1.symm.trans c_)).trans (congrArg Int32.toInt64 e2).symm
  refine k_i2l C (pc := 1000) (v := x2.toInt64) d_law_1000 rfl ?_
  refine k_lcmp C (pc := 1001) d_law_1001 ?_
  have hz : lg_cmp (f2 (0 : Int32).toNatClampNeg) x2.toInt64 = 0 := by
    show lg_cmp (f2 0) _ = 0
    rw [hv]
    exact lg_self _
  exact k_if_eq C (pc := 1002) (tgt := 1007) d_law_1002 (by decide) (fun _ => T2) (fun c_ => absurd hz c_)
theorem d_law_1010 : decode code 1010 = .ok (.aload_n 1, 1) := by decide +kernel
theorem d_law_1011 : decode code 1011 = .ok (.aload_n 0, 1) := by decide +kernel
theorem d_law_1012 : decode code 1012 = .ok (.iload 4, 2) := by decide +kernel
theorem d_law_1014 : decode code 1014 = .ok (.iconst 1, 1) := by decide +kernel
theorem d_law_1015 : decode code 1015 = .ok (.iadd, 1) := by decide +kernel
theorem d_law_1016 : decode code 1016 = .ok (.iaload, 1) := by decide +kernel
theorem d_law_1017 : decode code 1017 = .ok (.aload_n 0, 1) := by decide +kernel
theorem d_law_1018 : decode code 1018 = .ok (.iload 4, 2) := by decide +kernel
theorem d_law_1020 : decode code 1020 = .ok (.iconst 2, 1) := by decide +kernel
theorem d_law_1021 : decode code 1021 = .ok (.iadd, 1) := by decide +kernel
theorem d_law_1022 : decode code 1022 = .ok (.iaload, 1) := by decide +kernel
theorem d_law_1023 : decode code 1023 = .ok (.ifCond .eq 7, 3) := by decide +kernel
theorem d_law_1026 : decode code 1026 = .ok (.iconst 1, 1) := by decide +kernel
theorem d_law_1027 : decode code 1027 = .ok (.goto 4, 3) := by decide +kernel
theorem d_law_1030 : decode code 1030 = .ok (.iconst 0, 1) := by decide +kernel
theorem d_law_1031 : decode code 1031 = .ok (.aload_n 3, 1) := by decide +kernel
theorem d_law_1032 : decode code 1032 = .ok (.invokestatic 131, 3) := by decide +kernel
theorem d_law_1035 : decode code 1035 = .ok (.istore 5, 2) := by decide +kernel
theorem d_law_1037 : decode code 1037 = .ok (.aload_n 2, 1) := by decide +kernel
theorem d_law_1038 : decode code 1038 = .ok (.aload_n 0, 1) := by decide +kernel
theorem d_law_1039 : decode code 1039 = .ok (.iload 4, 2) := by decide +kernel
theorem d_law_1041 : decode code 1041 = .ok (.iconst 1, 1) := by decide +kernel
theorem d_law_1042 : decode code 1042 = .ok (.iadd, 1) := by decide +kernel
theorem d_law_1043 : decode code 1043 = .ok (.iaload, 1) := by decide +kernel
theorem d_law_1044 : decode code 1044 = .ok (.aload_n 0, 1) := by decide +kernel
theorem d_law_1045 : decode code 1045 = .ok (.iload 4, 2) := by decide +kernel
theorem d_law_1047 : decode code 1047 = .ok (.iconst 2, 1) := by decide +kernel
theorem d_law_1048 : decode code 1048 = .ok (.iadd, 1) := by decide +kernel
theorem d_law_1049 : decode code 1049 = .ok (.iaload, 1) := by decide +kernel
theorem d_law_1050 : decode code 1050 = .ok (.ifCond .eq 7, 3) := by decide +kernel
theorem d_law_1053 : decode code 1053 = .ok (.iconst 1, 1) := by decide +kernel
theorem d_law_1054 : decode code 1054 = .ok (.goto 4, 3) := by decide +kernel
theorem d_law_1057 : decode code 1057 = .ok (.iconst 0, 1) := by decide +kernel
theorem d_law_1058 : decode code 1058 = .ok (.invokevirtual 134, 3) := by decide +kernel
theorem d_law_1061 : decode code 1061 = .ok (.istore 6, 2) := by decide +kernel
theorem d_law_1063 : decode code 1063 = .ok (.aload_n 2, 1) := by decide +kernel
theorem d_law_1064 : decode code 1064 = .ok (.invokevirtual 83, 3) := by decide +kernel
theorem d_law_1067 : decode code 1067 = .ok (.iload 5, 2) := by decide +kernel
theorem d_law_1069 : decode code 1069 = .ok (.if_icmp .eq 5, 3) := by decide +kernel
theorem d_law_1074 : decode code 1074 = .ok (.iload 5, 2) := by decide +kernel
theorem d_law_1076 : decode code 1076 = .ok (.ifCond .ne 22, 3) := by decide +kernel
theorem d_law_1079 : decode code 1079 = .ok (.aload_n 3, 1) := by decide +kernel
theorem d_law_1080 : decode code 1080 = .ok (.iconst 0, 1) := by decide +kernel
theorem d_law_1081 : decode code 1081 = .ok (.laload, 1) := by decide +kernel
theorem d_law_1082 : decode code 1082 = .ok (.iload 6, 2) := by decide +kernel
theorem d_law_1084 : decode code 1084 = .ok (.ifCond .eq 7, 3) := by decide +kernel
theorem d_law_1087 : decode code 1087 = .ok (.lconst 1, 1) := by decide +kernel
theorem d_law_1088 : decode code 1088 = .ok (.goto 4, 3) := by decide +kernel
theorem d_law_1091 : decode code 1091 = .ok (.lconst 0, 1) := by decide +kernel
theorem d_law_1092 : decode code 1092 = .ok (.lcmp, 1) := by decide +kernel
theorem d_law_1093 : decode code 1093 = .ok (.ifCond .eq 5, 3) := by decide +kernel
theorem d_law_1098 : decode code 1098 = .ok (.goto 314, 3) := by decide +kernel
set_option maxHeartbeats 1000000 in
theorem law_c14 {p : Program} {l : Launch} {e : Env} {s : State} {m : MethodId} {below : List Frame} {meth : Method} {c : Code} {D : va_G} {cA : Nat → ClassId} {b L : Nat} {xs : Nat → Int32} (C : Cx p s m meth c code 9 #[Value.ref b] lw_tbl "WidowWatchLaw" D cA (fun q => s.heap.size ≤ q)) (hE : EvY D cA (fun q => s.heap.size ≤ q) s s.heap) (hst : l.stackTraces = false) (hX : va_X b L xs s s.heap) (hbl : b < s.heap.size) (o : Nat) (h ab ac ar hm rH rL rC rP r1 r2 r3 : Nat → Nat) {Q : State → Prop} (i : Nat) (hi : 6 * i + 6 ≤ L) (hL : L ≤ 3072) {f : Nat → Int64} {S : ivS} {th : Int32} {w wM : va_W} (hI : ivI cA h ab ac ar S false w) (hM : imI cA hm rH rL rC rP r1 r2 r3 S th wM) (nx : ∀ (f : Nat → Int64) (S : ivS) (th : Int32) (w wM : va_W), ivI cA h ab ac ar S false w → imI cA hm rH rL rC rP r1 r2 r3 S th wM → lwK p l e s m below meth c D b Q (2000 + 8 * i + 8) (100000 + 64 * i + 64) ((w ++ [(o, .inl (cA 5, 1, .inr (.inl f)))]) ++ wM) 1412 [(0, .ref b), (1, .ref (h 0)), (2, .ref (hm 0)), (3, .ref o), (4, .int (nI (6 * i)))] []) : lwK p l e s m below meth c D b Q (2000 + 8 * i) (100000 + 64 * i) ((w ++ [(o, .inl (cA 5, 1, .inr (.inl f)))]) ++ wM) 1010 [(0, .ref b), (1, .ref (h 0)), (2, .ref (hm 0)), (3, .ref o), (4, .int (nI (6 * i)))] [] := by
  have hbA : ¬ (fun q => s.heap.size ≤ q) b := Nat.not_le.mpr hbl
  have hcl : ∀ j, j ≤ 8 → 2000 + 8 * i + j ≤ room_1.cells := fun j hj => by
    show _ ≤ 601024
    omega
  have hsl : ∀ j, j ≤ 64 → 100000 + 64 * i + j ≤ room_1.slots := fun j hj => by
    show _ ≤ 7293034
    omega
  obtain ⟨fs, t, hw⟩ := hI.hd
  obtain ⟨fsM, tM, hwM⟩ := hM.hd
  obtain ⟨b2, hb2⟩ := lw_bool (xs (nI (6 * i) + (2 : Int32)).toNatClampNeg)
  refine k_aload_n C 1 (pc := 1010) d_law_1010 rfl rfl ?_
  refine k_aload_n C 0 (pc := 1011) d_law_1011 rfl rfl ?_
  refine k_iload C 4 (pc := 1012) d_law_1012 rfl ?_
  refine k_iconst C (pc := 1014) (v := (1 : Int32)) d_law_1014 rfl ?_
  refine k_iadd C (pc := 1015) d_law_1015 ?_
  refine k_sld C (pc := 1016) hX hbl hbA (lw_hin hi hL 1 (by decide)) d_law_1016 ?_
  refine k_aload_n C 0 (pc := 1017) d_law_1017 rfl rfl ?_
  refine k_iload C 4 (pc := 1018) d_law_1018 rfl ?_
  refine k_iconst C (pc := 1020) (v := (2 : Int32)) d_law_1020 rfl ?_
  refine k_iadd C (pc := 1021) d_law_1021 ?_
  refine k_sld C (pc := 1022) hX hbl hbA (lw_hin hi hL 2 (by decide)) d_law_1022 ?_
  suffices J : lwK p l e s m below meth c D b Q (2000 + 8 * i) (100000 + 64 * i) ((w ++ [(o, .inl (cA 5, 1, .inr (.inl f)))]) ++ wM) 1031 [(0, .ref b), (1, .ref (h 0)), (2, .ref (hm 0)), (3, .ref o), (4, .int (nI (6 * i)))] [.int (bI b2), .int (xs (nI (6 * i) + (1 : Int32)).toNatClampNeg), .ref (h 0)] by
    refine k_if_eq C (pc := 1023) (tgt := 1030) d_law_1023 (by decide) (fun c_ => ?_) (fun c_ => ?_)
    · refine k_iconst C (pc := 1030) (v := (0 : Int32)) d_law_1030 rfl ?_
      rw [hb2.1 c_] at J
      exact J
    · refine k_iconst C (pc := 1026) (v := (1 : Int32)) d_law_1026 rfl ?_
      refine k_goto C (pc := 1027) (tgt := 1031) d_law_1027 (by decide) ?_
      rw [hb2.2 c_] at J
      exact J
  refine k_aload_n C 3 (pc := 1031) d_law_1031 rfl rfl ?_
  refine kx_onL C (pc := 1032) (ky_runS C hE (As := [.ref (h 0), .int (xs (nI (6 * i) + (1 : Int32)).toNatClampNeg), .int (bI b2), .ref o]) (rest := []) (wl_begin l D cA h ab ac ar hst (xs (nI (6 * i) + (1 : Int32)).toNatClampNeg) b2 hI o f) (ky_cw C tYL_begin tW_4_117 tW_1_0 tW_4_118 okL_begin rfl rfl ⟨Nat.le_of_ble_eq_true rfl, Nat.le_of_ble_eq_true rfl⟩) rfl rfl (Nat.le_of_ble_eq_true rfl) d_law_1032 ⟨hcl 1 (by decide), hsl 6 (by decide)⟩) (fun v w1 h_ => by obtain ⟨r, rfl, -, w2, f2, rfl, h1, -⟩ := h_; rw [List.map_append, List.map_append, h1.ad, hI.ad]; rfl) (fun E w1 h_ => h_.elim) (fun E w1 hx => hx.elim) (fun v w1 hv => ?_)
  obtain ⟨k1, rfl, e1, w2, f2, rfl, hI1, ho⟩ := hv
  refine k_eq (pc := 1035) (ws' := ((w2 ++ [(o, .inl (cA 5, 1, .inr (.inl f2)))]) ++ wM)) (st' := [.int k1]) rfl rfl rfl ?_
  refine k_widen (k := 2000 + 8 * i + 8) (n := 100000 + 64 * i + 64) (by omega) (by omega) ?_
  refine k_istore C (pc := 1035) d_law_1035 (Nat.lt_of_lt_of_le (Nat.lt_succ_self _) (Nat.le_of_ble_eq_true rfl)) (lv' := [(5, .int k1), (0, .ref b), (1, .ref (h 0)), (2, .ref (hm 0)), (3, .ref o), (4, .int (nI (6 * i)))]) rfl ?_
  refine k_aload_n C 3 (pc := 1037) d_law_1037 rfl rfl ?_
  refine k_aload_n C 1 (pc := 1038) d_law_1038 rfl rfl ?_
  refine k_iload C 5 (pc := 1039) d_law_1039 rfl ?_
  refine k_iconst C (pc := 1041) (v := (1 : Int32)) d_law_1041 rfl ?_
  refine k_iadd C (pc := 1042) d_law_1042 ?_
  refine k_sld C (pc := 1043) hX hbl hbA (lw_hin hi hL 1 (by decide)) d_law_1043 ?_
  refine k_aload_n C 1 (pc := 1044) d_law_1044 rfl rfl ?_
  refine k_iload C 5 (pc := 1045) d_law_1045 rfl ?_
  refine k_iconst C (pc := 1047) (v := (2 : Int32)) d_law_1047 rfl ?_
  refine k_iadd C (pc := 1048) d_law_1048 ?_
  refine k_sld C (pc := 1049) hX hbl hbA (lw_hin hi hL 2 (by decide)) d_law_1049 ?_
  suffices J : lwK p l e s m below meth c D b Q (2000 + 8 * i + 8) (100000 + 64 * i + 64) ((w2 ++ [(o, .inl (cA 5, 1, .inr (.inl f2)))]) ++ wM) 1058 [(5, .int k1), (0, .ref b), (1, .ref (h 0)), (2, .ref (hm 0)), (3, .ref o), (4, .int (nI (6 * i)))] [.int (bI b2), .int (xs (nI (6 * i) + (1 : Int32)).toNatClampNeg), .ref (hm 0)] by
    refine k_if_eq C (pc := 1050) (tgt := 1057) d_law_1050 (by decide) (fun c_ => ?_) (fun c_ => ?_)
    · refine k_iconst C (pc := 1057) (v := (0 : Int32)) d_law_1057 rfl ?_
      rw [hb2.1 c_] at J
      exact J
    · refine k_iconst C (pc := 1053) (v := (1 : Int32)) d_law_1053 rfl ?_
      refine k_goto C (pc := 1054) (tgt := 1058) d_law_1054 (by decide) ?_
      rw [hb2.2 c_] at J
      exact J
  refine k_onR C (pc := 1058) (k_runV C (As := [.int (xs (nI (6 * i) + (1 : Int32)).toNatClampNeg), .int (bI b2)]) (rest := []) (ci := 7) (q0 := 0) (mi_begin l D cA hm rH rL rC rP r1 r2 r3 (xs (nI (6 * i) + (1 : Int32)).toNatClampNeg) b2 hI.ok hI.n8 hM) ⟨k_cwB C tW_6_59 tW_6_56 tW_1_8 okX7_begin rfl rfl ⟨Nat.le_of_ble_eq_true rfl, Nat.le_of_ble_eq_true rfl⟩, C.w tW_6_57, C.w tW_6_58⟩ (by rw [hwM]; rfl) rfl rfl rfl rfl (Nat.le_of_ble_eq_true rfl) d_law_1058 ⟨hcl 8 (by decide), hsl 64 (by decide)⟩) (fun v w4 hv => ?_)
  obtain ⟨x2, rfl, e2, S1, hN, hM1⟩ := hv
  have hI2 := hI1.near hN
  refine k_eq (pc := 1061) (ws' := ((w2 ++ [(o, .inl (cA 5, 1, .inr (.inl f2)))]) ++ w4)) (st' := [.int x2]) rfl rfl rfl ?_
  refine k_widen (k := 2000 + 8 * i + 8) (n := 100000 + 64 * i + 64) (by omega) (by omega) ?_
  refine k_istore C (pc := 1061) d_law_1061 (Nat.lt_of_lt_of_le (Nat.lt_succ_self _) (Nat.le_of_ble_eq_true rfl)) (lv' := [(6, .int x2), (5, .int k1), (0, .ref b), (1, .ref (h 0)), (2, .ref (hm 0)), (3, .ref o), (4, .int (nI (6 * i)))]) rfl ?_
  refine k_aload_n C 4 (pc := 1063) d_law_1063 rfl rfl ?_
  obtain ⟨fsM1, tM1, hwM1⟩ := hM1.hd
  refine k_onR C (pc := 1064) (k_runV C (As := []) (rest := []) (ci := 7) (q0 := 0) (mi_thrown l D cA hm rH rL rC rP r1 r2 r3 hI2.ok hI2.n8 hM1) ⟨k_cwB C tW_5_43 tW_5_40 tW_1_8 okX7_thrown rfl rfl ⟨Nat.le_of_ble_eq_true rfl, Nat.le_of_ble_eq_true rfl⟩, C.w tW_5_41, C.w tW_5_42⟩ (by rw [hwM1]; rfl) rfl rfl rfl rfl (Nat.le_of_ble_eq_true rfl) d_law_1064 ⟨hcl 8 (by decide), hsl 64 (by decide)⟩) (fun v w4 hv => ?_)
  obtain ⟨t1, rfl, e3, hM2⟩ := hv
  refine k_eq (pc := 1067) (ws' := ((w2 ++ [(o, .inl (cA 5, 1, .inr (.inl f2)))]) ++ w4)) (st' := [.int t1]) rfl rfl rfl ?_
  refine k_widen (k := 2000 + 8 * i + 8) (n := 100000 + 64 * i + 64) (by omega) (by omega) ?_
  refine k_iload C 1 (pc := 1067) d_law_1067 rfl ?_
  refine k_icmp_eq C (pc := 1069) (tgt := 1074) d_law_1069 (by decide) (fun _ => ?_) (fun c_ => absurd (e3.trans e1.symm) c_)
  refine k_iload C 1 (pc := 1074) d_law_1074 rfl ?_
  have T2 : lwK p l e s m below meth c D b Q (2000 + 8 * i + 8) (100000 + 64 * i + 64) ((w2 ++ [(o, .inl (cA 5, 1, .inr (.inl f2)))]) ++ w4) 1098 [(6, .int x2), (5, .int k1), (0, .ref b), (1, .ref (h 0)), (2, .ref (hm 0)), (3, .ref o), (4, .int (nI (6 * i)))] [] := by
    refine k_goto C (pc := 1098) (tgt := 1412) d_law_1098 (by decide) ?_
    refine k_lv (pc := 1412) [2, 3, 4, 5, 6] (lv' := [(0, .ref b), (1, .ref (h 0)), (2, .ref (hm 0)), (3, .ref o), (4, .int (nI (6 * i)))]) rfl ?_
    exact nx _ S1 _ _ _ hI2 hM2
  refine k_if_ne C (pc := 1076) (tgt := 1098) d_law_1076 (by decide) (fun _ => T2) (fun c_ => ?_)
  refine k_aload_n C 5 (pc := 1079) d_law_1079 rfl rfl ?_
  refine k_iconst C (pc := 1080) (v := (0 : Int32)) d_law_1080 rfl ?_
  refine k_lald C (pc := 1081) w2.length (cc_get2 _ _ _) (vp_in_nI (n := 0) (by decide) (by decide)) d_law_1081 ?_
  refine k_iload C 0 (pc := 1082) d_law_1082 rfl ?_
  have hv : f2 0 = x2.toInt64 := (ho (e1.symm.trans c_)).trans (congrArg Int32.toInt64 e2).symm
  have h01 := s_begin_01 (e1.symm.trans c_)
  refine k_if_eq C (pc := 1084) (tgt := 1091) d_law_1084 (by decide) (fun d_ => ?_) (fun d_ => ?_)
  · refine k_lconst C (pc := 1091) (v := (0 : Int64)) d_law_1091 rfl ?_
    refine k_lcmp C (pc := 1092) d_law_1092 ?_
    have hz : lg_cmp (f2 (0 : Int32).toNatClampNeg) (0 : Int64) = 0 := by
      show lg_cmp (f2 0) _ = 0
      rw [hv, d_, show (0 : Int32).toInt64 = 0 from rfl]
      exact lg_self _
    exact k_if_eq C (pc := 1093) (tgt := 1098) d_law_1093 (by decide) (fun _ => T2) (fun c_ => absurd hz c_)
  · refine k_lconst C (pc := 1087) (v := (1 : Int64)) d_law_1087 rfl ?_
    refine k_goto C (pc := 1088) (tgt := 1092) d_law_1088 (by decide) ?_
    refine k_lcmp C (pc := 1092) d_law_1092 ?_
    have hz : lg_cmp (f2 (0 : Int32).toNatClampNeg) (1 : Int64) = 0 := by
      show lg_cmp (f2 0) _ = 0
      rw [hv, show x2 = 1 from e2.trans (h01.resolve_left (by rw [← e2]; exact d_)), show (1 : Int32).toInt64 = 1 from rfl]
      exact lg_self _
    exact k_if_eq C (pc := 1093) (tgt := 1098) d_law_1093 (by decide) (fun _ => T2) (fun c_ => absurd hz c_)
theorem d_law_1101 : decode code 1101 = .ok (.aload_n 1, 1) := by decide +kernel
theorem d_law_1102 : decode code 1102 = .ok (.aload_n 0, 1) := by decide +kernel
theorem d_law_1103 : decode code 1103 = .ok (.iload 4, 2) := by decide +kernel
theorem d_law_1105 : decode code 1105 = .ok (.iconst 1, 1) := by decide +kernel
theorem d_law_1106 : decode code 1106 = .ok (.iadd, 1) := by decide +kernel
theorem d_law_1107 : decode code 1107 = .ok (.iaload, 1) := by decide +kernel
theorem d_law_1108 : decode code 1108 = .ok (.aload_n 0, 1) := by decide +kernel
theorem d_law_1109 : decode code 1109 = .ok (.iload 4, 2) := by decide +kernel
theorem d_law_1111 : decode code 1111 = .ok (.iconst 2, 1) := by decide +kernel
theorem d_law_1112 : decode code 1112 = .ok (.iadd, 1) := by decide +kernel
theorem d_law_1113 : decode code 1113 = .ok (.iaload, 1) := by decide +kernel
theorem d_law_1114 : decode code 1114 = .ok (.aload_n 0, 1) := by decide +kernel
theorem d_law_1115 : decode code 1115 = .ok (.iload 4, 2) := by decide +kernel
theorem d_law_1117 : decode code 1117 = .ok (.iconst 3, 1) := by decide +kernel
theorem d_law_1118 : decode code 1118 = .ok (.iadd, 1) := by decide +kernel
theorem d_law_1119 : decode code 1119 = .ok (.iaload, 1) := by decide +kernel
theorem d_law_1120 : decode code 1120 = .ok (.aload_n 3, 1) := by decide +kernel
theorem d_law_1121 : decode code 1121 = .ok (.invokestatic 135, 3) := by decide +kernel
theorem d_law_1124 : decode code 1124 = .ok (.istore 5, 2) := by decide +kernel
theorem d_law_1126 : decode code 1126 = .ok (.aload_n 2, 1) := by decide +kernel
theorem d_law_1127 : decode code 1127 = .ok (.aload_n 0, 1) := by decide +kernel
theorem d_law_1128 : decode code 1128 = .ok (.iload 4, 2) := by decide +kernel
theorem d_law_1130 : decode code 1130 = .ok (.iconst 1, 1) := by decide +kernel
theorem d_law_1131 : decode code 1131 = .ok (.iadd, 1) := by decide +kernel
theorem d_law_1132 : decode code 1132 = .ok (.iaload, 1) := by decide +kernel
theorem d_law_1133 : decode code 1133 = .ok (.aload_n 0, 1) := by decide +kernel
theorem d_law_1134 : decode code 1134 = .ok (.iload 4, 2) := by decide +kernel
theorem d_law_1136 : decode code 1136 = .ok (.iconst 2, 1) := by decide +kernel
theorem d_law_1137 : decode code 1137 = .ok (.iadd, 1) := by decide +kernel
theorem d_law_1138 : decode code 1138 = .ok (.iaload, 1) := by decide +kernel
theorem d_law_1139 : decode code 1139 = .ok (.aload_n 0, 1) := by decide +kernel
theorem d_law_1140 : decode code 1140 = .ok (.iload 4, 2) := by decide +kernel
theorem d_law_1142 : decode code 1142 = .ok (.iconst 3, 1) := by decide +kernel
theorem d_law_1143 : decode code 1143 = .ok (.iadd, 1) := by decide +kernel
theorem d_law_1144 : decode code 1144 = .ok (.iaload, 1) := by decide +kernel
theorem d_law_1145 : decode code 1145 = .ok (.invokevirtual 137, 3) := by decide +kernel
theorem d_law_1148 : decode code 1148 = .ok (.istore 6, 2) := by decide +kernel
theorem d_law_1150 : decode code 1150 = .ok (.aload_n 2, 1) := by decide +kernel
theorem d_law_1151 : decode code 1151 = .ok (.invokevirtual 83, 3) := by decide +kernel
theorem d_law_1154 : decode code 1154 = .ok (.iload 5, 2) := by decide +kernel
theorem d_law_1156 : decode code 1156 = .ok (.if_icmp .eq 5, 3) := by decide +kernel
theorem d_law_1161 : decode code 1161 = .ok (.iload 5, 2) := by decide +kernel
theorem d_law_1163 : decode code 1163 = .ok (.ifCond .ne 15, 3) := by decide +kernel
theorem d_law_1166 : decode code 1166 = .ok (.aload_n 3, 1) := by decide +kernel
theorem d_law_1167 : decode code 1167 = .ok (.iconst 0, 1) := by decide +kernel
theorem d_law_1168 : decode code 1168 = .ok (.laload, 1) := by decide +kernel
theorem d_law_1169 : decode code 1169 = .ok (.iload 6, 2) := by decide +kernel
theorem d_law_1171 : decode code 1171 = .ok (.i2l, 1) := by decide +kernel
theorem d_law_1172 : decode code 1172 = .ok (.lcmp, 1) := by decide +kernel
theorem d_law_1173 : decode code 1173 = .ok (.ifCond .eq 5, 3) := by decide +kernel
theorem d_law_1178 : decode code 1178 = .ok (.goto 234, 3) := by decide +kernel
set_option maxHeartbeats 1000000 in
theorem law_c15 {p : Program} {l : Launch} {e : Env} {s : State} {m : MethodId} {below : List Frame} {meth : Method} {c : Code} {D : va_G} {cA : Nat → ClassId} {b L : Nat} {xs : Nat → Int32} (C : Cx p s m meth c code 9 #[Value.ref b] lw_tbl "WidowWatchLaw" D cA (fun q => s.heap.size ≤ q)) (hE : EvY D cA (fun q => s.heap.size ≤ q) s s.heap) (hst : l.stackTraces = false) (hX : va_X b L xs s s.heap) (hbl : b < s.heap.size) (o : Nat) (h ab ac ar hm rH rL rC rP r1 r2 r3 : Nat → Nat) {Q : State → Prop} (i : Nat) (hi : 6 * i + 6 ≤ L) (hL : L ≤ 3072) {f : Nat → Int64} {S : ivS} {th : Int32} {w wM : va_W} (hI : ivI cA h ab ac ar S false w) (hM : imI cA hm rH rL rC rP r1 r2 r3 S th wM) (nx : ∀ (f : Nat → Int64) (S : ivS) (th : Int32) (w wM : va_W), ivI cA h ab ac ar S false w → imI cA hm rH rL rC rP r1 r2 r3 S th wM → lwK p l e s m below meth c D b Q (2000 + 8 * i + 8) (100000 + 64 * i + 64) ((w ++ [(o, .inl (cA 5, 1, .inr (.inl f)))]) ++ wM) 1412 [(0, .ref b), (1, .ref (h 0)), (2, .ref (hm 0)), (3, .ref o), (4, .int (nI (6 * i)))] []) : lwK p l e s m below meth c D b Q (2000 + 8 * i) (100000 + 64 * i) ((w ++ [(o, .inl (cA 5, 1, .inr (.inl f)))]) ++ wM) 1101 [(0, .ref b), (1, .ref (h 0)), (2, .ref (hm 0)), (3, .ref o), (4, .int (nI (6 * i)))] [] := by
  have hbA : ¬ (fun q => s.heap.size ≤ q) b := Nat.not_le.mpr hbl
  have hcl : ∀ j, j ≤ 8 → 2000 + 8 * i + j ≤ room_1.cells := fun j hj => by
    show _ ≤ 601024
    omega
  have hsl : ∀ j, j ≤ 64 → 100000 + 64 * i + j ≤ room_1.slots := fun j hj => by
    show _ ≤ 7293034
    omega
  obtain ⟨fs, t, hw⟩ := hI.hd
  obtain ⟨fsM, tM, hwM⟩ := hM.hd
  refine k_aload_n C 1 (pc := 1101) d_law_1101 rfl rfl ?_
  refine k_aload_n C 0 (pc := 1102) d_law_1102 rfl rfl ?_
  refine k_iload C 4 (pc := 1103) d_law_1103 rfl ?_
  refine k_iconst C (pc := 1105) (v := (1 : Int32)) d_law_1105 rfl ?_
  refine k_iadd C (pc := 1106) d_law_1106 ?_
  refine k_sld C (pc := 1107) hX hbl hbA (lw_hin hi hL 1 (by decide)) d_law_1107 ?_
  refine k_aload_n C 0 (pc := 1108) d_law_1108 rfl rfl ?_
  refine k_iload C 4 (pc := 1109) d_law_1109 rfl ?_
  refine k_iconst C (pc := 1111) (v := (2 : Int32)) d_law_1111 rfl ?_
  refine k_iadd C (pc := 1112) d_law_1112 ?_
  refine k_sld C (pc := 1113) hX hbl hbA (lw_hin hi hL 2 (by decide)) d_law_1113 ?_
  refine k_aload_n C 0 (pc := 1114) d_law_1114 rfl rfl ?_
  refine k_iload C 4 (pc := 1115) d_law_1115 rfl ?_
  refine k_iconst C (pc := 1117) (v := (3 : Int32)) d_law_1117 rfl ?_
  refine k_iadd C (pc := 1118) d_law_1118 ?_
  refine k_sld C (pc := 1119) hX hbl hbA (lw_hin hi hL 3 (by decide)) d_law_1119 ?_
  refine k_aload_n C 3 (pc := 1120) d_law_1120 rfl rfl ?_
  refine kx_onL C (pc := 1121) (ky_runS C hE (As := [.ref (h 0), .int (xs (nI (6 * i) + (1 : Int32)).toNatClampNeg), .int (xs (nI (6 * i) + (2 : Int32)).toNatClampNeg), .int (xs (nI (6 * i) + (3 : Int32)).toNatClampNeg), .ref o]) (rest := []) (wl_insert l D cA h ab ac ar hst (xs (nI (6 * i) + (1 : Int32)).toNatClampNeg) (xs (nI (6 * i) + (2 : Int32)).toNatClampNeg) (xs (nI (6 * i) + (3 : Int32)).toNatClampNeg) hI o f) (ky_cw C tYL_insert tW_4_125 tW_1_0 tW_4_126 okL_insert rfl rfl ⟨Nat.le_of_ble_eq_true rfl, Nat.le_of_ble_eq_true rfl⟩) rfl rfl (Nat.le_of_ble_eq_true rfl) d_law_1121 ⟨hcl 1 (by decide), hsl 6 (by decide)⟩) (fun v w1 h_ => by obtain ⟨r, rfl, -, w2, f2, rfl, h1, -⟩ := h_; rw [List.map_append, List.map_append, h1.ad, hI.ad]; rfl) (fun E w1 h_ => h_.elim) (fun E w1 hx => hx.elim) (fun v w1 hv => ?_)
  obtain ⟨k1, rfl, e1, w2, f2, rfl, hI1, ho⟩ := hv
  refine k_eq (pc := 1124) (ws' := ((w2 ++ [(o, .inl (cA 5, 1, .inr (.inl f2)))]) ++ wM)) (st' := [.int k1]) rfl rfl rfl ?_
  refine k_widen (k := 2000 + 8 * i + 8) (n := 100000 + 64 * i + 64) (by omega) (by omega) ?_
  refine k_istore C (pc := 1124) d_law_1124 (Nat.lt_of_lt_of_le (Nat.lt_succ_self _) (Nat.le_of_ble_eq_true rfl)) (lv' := [(5, .int k1), (0, .ref b), (1, .ref (h 0)), (2, .ref (hm 0)), (3, .ref o), (4, .int (nI (6 * i)))]) rfl ?_
  refine k_aload_n C 3 (pc := 1126) d_law_1126 rfl rfl ?_
  refine k_aload_n C 1 (pc := 1127) d_law_1127 rfl rfl ?_
  refine k_iload C 5 (pc := 1128) d_law_1128 rfl ?_
  refine k_iconst C (pc := 1130) (v := (1 : Int32)) d_law_1130 rfl ?_
  refine k_iadd C (pc := 1131) d_law_1131 ?_
  refine k_sld C (pc := 1132) hX hbl hbA (lw_hin hi hL 1 (by decide)) d_law_1132 ?_
  refine k_aload_n C 1 (pc := 1133) d_law_1133 rfl rfl ?_
  refine k_iload C 5 (pc := 1134) d_law_1134 rfl ?_
  refine k_iconst C (pc := 1136) (v := (2 : Int32)) d_law_1136 rfl ?_
  refine k_iadd C (pc := 1137) d_law_1137 ?_
  refine k_sld C (pc := 1138) hX hbl hbA (lw_hin hi hL 2 (by decide)) d_law_1138 ?_
  refine k_aload_n C 1 (pc := 1139) d_law_1139 rfl rfl ?_
  refine k_iload C 5 (pc := 1140) d_law_1140 rfl ?_
  refine k_iconst C (pc := 1142) (v := (3 : Int32)) d_law_1142 rfl ?_
  refine k_iadd C (pc := 1143) d_law_1143 ?_
  refine k_sld C (pc := 1144) hX hbl hbA (lw_hin hi hL 3 (by decide)) d_law_1144 ?_
  refine k_onR C (pc := 1145) (k_runV C (As := [.int (xs (nI (6 * i) + (1 : Int32)).toNatClampNeg), .int (xs (nI (6 * i) + (2 : Int32)).toNatClampNeg), .int (xs (nI (6 * i) + (3 : Int32)).toNatClampNeg)]) (rest := []) (ci := 7) (q0 := 0) (mi_insert l D cA hm rH rL rC rP r1 r2 r3 (xs (nI (6 * i) + (1 : Int32)).toNatClampNeg) (xs (nI (6 * i) + (2 : Int32)).toNatClampNeg) (xs (nI (6 * i) + (3 : Int32)).toNatClampNeg) hI.ok hI.n8 hM) ⟨k_cwB C tW_6_63 tW_6_60 tW_1_8 okX7_insert rfl rfl ⟨Nat.le_of_ble_eq_true rfl, Nat.le_of_ble_eq_true rfl⟩, C.w tW_6_61, C.w tW_6_62⟩ (by rw [hwM]; rfl) rfl rfl rfl rfl (Nat.le_of_ble_eq_true rfl) d_law_1145 ⟨hcl 8 (by decide), hsl 64 (by decide)⟩) (fun v w4 hv => ?_)
  obtain ⟨x2, rfl, e2, S1, hN, hM1⟩ := hv
  have hI2 := hI1.near hN
  refine k_eq (pc := 1148) (ws' := ((w2 ++ [(o, .inl (cA 5, 1, .inr (.inl f2)))]) ++ w4)) (st' := [.int x2]) rfl rfl rfl ?_
  refine k_widen (k := 2000 + 8 * i + 8) (n := 100000 + 64 * i + 64) (by omega) (by omega) ?_
  refine k_istore C (pc := 1148) d_law_1148 (Nat.lt_of_lt_of_le (Nat.lt_succ_self _) (Nat.le_of_ble_eq_true rfl)) (lv' := [(6, .int x2), (5, .int k1), (0, .ref b), (1, .ref (h 0)), (2, .ref (hm 0)), (3, .ref o), (4, .int (nI (6 * i)))]) rfl ?_
  refine k_aload_n C 4 (pc := 1150) d_law_1150 rfl rfl ?_
  obtain ⟨fsM1, tM1, hwM1⟩ := hM1.hd
  refine k_onR C (pc := 1151) (k_runV C (As := []) (rest := []) (ci := 7) (q0 := 0) (mi_thrown l D cA hm rH rL rC rP r1 r2 r3 hI2.ok hI2.n8 hM1) ⟨k_cwB C tW_5_43 tW_5_40 tW_1_8 okX7_thrown rfl rfl ⟨Nat.le_of_ble_eq_true rfl, Nat.le_of_ble_eq_true rfl⟩, C.w tW_5_41, C.w tW_5_42⟩ (by rw [hwM1]; rfl) rfl rfl rfl rfl (Nat.le_of_ble_eq_true rfl) d_law_1151 ⟨hcl 8 (by decide), hsl 64 (by decide)⟩) (fun v w4 hv => ?_)
  obtain ⟨t1, rfl, e3, hM2⟩ := hv
  refine k_eq (pc := 1154) (ws' := ((w2 ++ [(o, .inl (cA 5, 1, .inr (.inl f2)))]) ++ w4)) (st' := [.int t1]) rfl rfl rfl ?_
  refine k_widen (k := 2000 + 8 * i + 8) (n := 100000 + 64 * i + 64) (by omega) (by omega) ?_
  refine k_iload C 1 (pc := 1154) d_law_1154 rfl ?_
  refine k_icmp_eq C (pc := 1156) (tgt := 1161) d_law_1156 (by decide) (fun _ => ?_) (fun c_ => absurd (e3.trans e1.symm) c_)
  refine k_iload C 1 (pc := 1161) d_law_1161 rfl ?_
  have T2 : lwK p l e s m below meth c D b Q (2000 + 8 * i + 8) (100000 + 64 * i + 64) ((w2 ++ [(o, .inl (cA 5, 1, .inr (.inl f2)))]) ++ w4) 1178 [(6, .int x2), (5, .int k1), (0, .ref b), (1, .ref (h 0)), (2, .ref (hm 0)), (3, .ref o), (4, .int (nI (6 * i)))] [] := by
    refine k_goto C (pc := 1178) (tgt := 1412) d_law_1178 (by decide) ?_
    refine k_lv (pc := 1412) [2, 3, 4, 5, 6] (lv' := [(0, .ref b), (1, .ref (h 0)), (2, .ref (hm 0)), (3, .ref o), (4, .int (nI (6 * i)))]) rfl ?_
    exact nx _ S1 _ _ _ hI2 hM2
  refine k_if_ne C (pc := 1163) (tgt := 1178) d_law_1163 (by decide) (fun _ => T2) (fun c_ => ?_)
  refine k_aload_n C 5 (pc := 1166) d_law_1166 rfl rfl ?_
  refine k_iconst C (pc := 1167) (v := (0 : Int32)) d_law_1167 rfl ?_
  refine k_lald C (pc := 1168) w2.length (cc_get2 _ _ _) (vp_in_nI (n := 0) (by decide) (by decide)) d_law_1168 ?_
  refine k_iload C 0 (pc := 1169) d_law_1169 rfl ?_
  have hv : f2 0 = x2.toInt64 := (ho (e1.symm.trans c_)).trans (congrArg Int32.toInt64 e2).symm
  refine k_i2l C (pc := 1171) (v := x2.toInt64) d_law_1171 rfl ?_
  refine k_lcmp C (pc := 1172) d_law_1172 ?_
  have hz : lg_cmp (f2 (0 : Int32).toNatClampNeg) x2.toInt64 = 0 := by
    show lg_cmp (f2 0) _ = 0
    rw [hv]
    exact lg_self _
  exact k_if_eq C (pc := 1173) (tgt := 1178) d_law_1173 (by decide) (fun _ => T2) (fun c_ => absurd hz c_)
theorem d_law_1181 : decode code 1181 = .ok (.aload_n 1, 1) := by decide +kernel
theorem d_law_1182 : decode code 1182 = .ok (.aload_n 0, 1) := by decide +kernel
theorem d_law_1183 : decode code 1183 = .ok (.iload 4, 2) := by decide +kernel
theorem d_law_1185 : decode code 1185 = .ok (.iconst 1, 1) := by decide +kernel
theorem d_law_1186 : decode code 1186 = .ok (.iadd, 1) := by decide +kernel
theorem d_law_1187 : decode code 1187 = .ok (.iaload, 1) := by decide +kernel
theorem d_law_1188 : decode code 1188 = .ok (.aload_n 3, 1) := by decide +kernel
theorem d_law_1189 : decode code 1189 = .ok (.invokestatic 138, 3) := by decide +kernel
theorem d_law_1192 : decode code 1192 = .ok (.istore 5, 2) := by decide +kernel
theorem d_law_1194 : decode code 1194 = .ok (.aload_n 2, 1) := by decide +kernel
theorem d_law_1195 : decode code 1195 = .ok (.aload_n 0, 1) := by decide +kernel
theorem d_law_1196 : decode code 1196 = .ok (.iload 4, 2) := by decide +kernel
theorem d_law_1198 : decode code 1198 = .ok (.iconst 1, 1) := by decide +kernel
theorem d_law_1199 : decode code 1199 = .ok (.iadd, 1) := by decide +kernel
theorem d_law_1200 : decode code 1200 = .ok (.iaload, 1) := by decide +kernel
theorem d_law_1201 : decode code 1201 = .ok (.invokevirtual 140, 3) := by decide +kernel
theorem d_law_1204 : decode code 1204 = .ok (.istore 6, 2) := by decide +kernel
theorem d_law_1206 : decode code 1206 = .ok (.aload_n 2, 1) := by decide +kernel
theorem d_law_1207 : decode code 1207 = .ok (.invokevirtual 83, 3) := by decide +kernel
theorem d_law_1210 : decode code 1210 = .ok (.iload 5, 2) := by decide +kernel
theorem d_law_1212 : decode code 1212 = .ok (.if_icmp .eq 5, 3) := by decide +kernel
theorem d_law_1217 : decode code 1217 = .ok (.iload 5, 2) := by decide +kernel
theorem d_law_1219 : decode code 1219 = .ok (.ifCond .ne 15, 3) := by decide +kernel
theorem d_law_1222 : decode code 1222 = .ok (.aload_n 3, 1) := by decide +kernel
theorem d_law_1223 : decode code 1223 = .ok (.iconst 0, 1) := by decide +kernel
theorem d_law_1224 : decode code 1224 = .ok (.laload, 1) := by decide +kernel
theorem d_law_1225 : decode code 1225 = .ok (.iload 6, 2) := by decide +kernel
theorem d_law_1227 : decode code 1227 = .ok (.i2l, 1) := by decide +kernel
theorem d_law_1228 : decode code 1228 = .ok (.lcmp, 1) := by decide +kernel
theorem d_law_1229 : decode code 1229 = .ok (.ifCond .eq 5, 3) := by decide +kernel
theorem d_law_1234 : decode code 1234 = .ok (.goto 178, 3) := by decide +kernel
set_option maxHeartbeats 1000000 in
theorem law_c16 {p : Program} {l : Launch} {e : Env} {s : State} {m : MethodId} {below : List Frame} {meth : Method} {c : Code} {D : va_G} {cA : Nat → ClassId} {b L : Nat} {xs : Nat → Int32} (C : Cx p s m meth c code 9 #[Value.ref b] lw_tbl "WidowWatchLaw" D cA (fun q => s.heap.size ≤ q)) (hE : EvY D cA (fun q => s.heap.size ≤ q) s s.heap) (hst : l.stackTraces = false) (hX : va_X b L xs s s.heap) (hbl : b < s.heap.size) (o : Nat) (h ab ac ar hm rH rL rC rP r1 r2 r3 : Nat → Nat) {Q : State → Prop} (i : Nat) (hi : 6 * i + 6 ≤ L) (hL : L ≤ 3072) {f : Nat → Int64} {S : ivS} {th : Int32} {w wM : va_W} (hI : ivI cA h ab ac ar S false w) (hM : imI cA hm rH rL rC rP r1 r2 r3 S th wM) (nx : ∀ (f : Nat → Int64) (S : ivS) (th : Int32) (w wM : va_W), ivI cA h ab ac ar S false w → imI cA hm rH rL rC rP r1 r2 r3 S th wM → lwK p l e s m below meth c D b Q (2000 + 8 * i + 8) (100000 + 64 * i + 64) ((w ++ [(o, .inl (cA 5, 1, .inr (.inl f)))]) ++ wM) 1412 [(0, .ref b), (1, .ref (h 0)), (2, .ref (hm 0)), (3, .ref o), (4, .int (nI (6 * i)))] []) : lwK p l e s m below meth c D b Q (2000 + 8 * i) (100000 + 64 * i) ((w ++ [(o, .inl (cA 5, 1, .inr (.inl f)))]) ++ wM) 1181 [(0, .ref b), (1, .ref (h 0)), (2, .ref (hm 0)), (3, .ref o), (4, .int (nI (6 * i)))] [] := by
  have hbA : ¬ (fun q => s.heap.size ≤ q) b := Nat.not_le.mpr hbl
  have hcl : ∀ j, j ≤ 8 → 2000 + 8 * i + j ≤ room_1.cells := fun j hj => by
    show _ ≤ 601024
    omega
  have hsl : ∀ j, j ≤ 64 → 100000 + 64 * i + j ≤ room_1.slots := fun j hj => by
    show _ ≤ 7293034
    omega
  obtain ⟨fs, t, hw⟩ := hI.hd
  obtain ⟨fsM, tM, hwM⟩ := hM.hd
  refine k_aload_n C 1 (pc := 1181) d_law_1181 rfl rfl ?_
  refine k_aload_n C 0 (pc := 1182) d_law_1182 rfl rfl ?_
  refine k_iload C 4 (pc := 1183) d_law_1183 rfl ?_
  refine k_iconst C (pc := 1185) (v := (1 : Int32)) d_law_1185 rfl ?_
  refine k_iadd C (pc := 1186) d_law_1186 ?_
  refine k_sld C (pc := 1187) hX hbl hbA (lw_hin hi hL 1 (by decide)) d_law_1187 ?_
  refine k_aload_n C 3 (pc := 1188) d_law_1188 rfl rfl ?_
  refine kx_onL C (pc := 1189) (ky_runS C hE (As := [.ref (h 0), .int (xs (nI (6 * i) + (1 : Int32)).toNatClampNeg), .ref o]) (rest := []) (wl_remove l D cA h ab ac ar hst (xs (nI (6 * i) + (1 : Int32)).toNatClampNeg) hI o f) (ky_cw C tYL_remove tW_4_153 tW_1_0 tW_4_154 okL_remove rfl rfl ⟨Nat.le_of_ble_eq_true rfl, Nat.le_of_ble_eq_true rfl⟩) rfl rfl (Nat.le_of_ble_eq_true rfl) d_law_1189 ⟨hcl 1 (by decide), hsl 6 (by decide)⟩) (fun v w1 h_ => by obtain ⟨r, rfl, -, w2, f2, rfl, h1, -⟩ := h_; rw [List.map_append, List.map_append, h1.ad, hI.ad]; rfl) (fun E w1 h_ => h_.elim) (fun E w1 hx => hx.elim) (fun v w1 hv => ?_)
  obtain ⟨k1, rfl, e1, w2, f2, rfl, hI1, ho⟩ := hv
  refine k_eq (pc := 1192) (ws' := ((w2 ++ [(o, .inl (cA 5, 1, .inr (.inl f2)))]) ++ wM)) (st' := [.int k1]) rfl rfl rfl ?_
  refine k_widen (k := 2000 + 8 * i + 8) (n := 100000 + 64 * i + 64) (by omega) (by omega) ?_
  refine k_istore C (pc := 1192) d_law_1192 (Nat.lt_of_lt_of_le (Nat.lt_succ_self _) (Nat.le_of_ble_eq_true rfl)) (lv' := [(5, .int k1), (0, .ref b), (1, .ref (h 0)), (2, .ref (hm 0)), (3, .ref o), (4, .int (nI (6 * i)))]) rfl ?_
  refine k_aload_n C 3 (pc := 1194) d_law_1194 rfl rfl ?_
  refine k_aload_n C 1 (pc := 1195) d_law_1195 rfl rfl ?_
  refine k_iload C 5 (pc := 1196) d_law_1196 rfl ?_
  refine k_iconst C (pc := 1198) (v := (1 : Int32)) d_law_1198 rfl ?_
  refine k_iadd C (pc := 1199) d_law_1199 ?_
  refine k_sld C (pc := 1200) hX hbl hbA (lw_hin hi hL 1 (by decide)) d_law_1200 ?_
  refine k_onR C (pc := 1201) (k_runV C (As := [.int (xs (nI (6 * i) + (1 : Int32)).toNatClampNeg)]) (rest := []) (ci := 7) (q0 := 0) (mi_remove l D cA hm rH rL rC rP r1 r2 r3 (xs (nI (6 * i) + (1 : Int32)).toNatClampNeg) hI.ok hI.n8 hM) ⟨k_cwB C tW_6_71 tW_6_68 tW_1_8 okX7_remove rfl rfl ⟨Nat.le_of_ble_eq_true rfl, Nat.le_of_ble_eq_true rfl⟩, C.w tW_6_69, C.w tW_6_70⟩ (by rw [hwM]; rfl) rfl rfl rfl rfl (Nat.le_of_ble_eq_true rfl) d_law_1201 ⟨hcl 8 (by decide), hsl 64 (by decide)⟩) (fun v w4 hv => ?_)
  obtain ⟨x2, rfl, e2, S1, hN, hM1⟩ := hv
  have hI2 := hI1.near hN
  refine k_eq (pc := 1204) (ws' := ((w2 ++ [(o, .inl (cA 5, 1, .inr (.inl f2)))]) ++ w4)) (st' := [.int x2]) rfl rfl rfl ?_
  refine k_widen (k := 2000 + 8 * i + 8) (n := 100000 + 64 * i + 64) (by omega) (by omega) ?_
  refine k_istore C (pc := 1204) d_law_1204 (Nat.lt_of_lt_of_le (Nat.lt_succ_self _) (Nat.le_of_ble_eq_true rfl)) (lv' := [(6, .int x2), (5, .int k1), (0, .ref b), (1, .ref (h 0)), (2, .ref (hm 0)), (3, .ref o), (4, .int (nI (6 * i)))]) rfl ?_
  refine k_aload_n C 4 (pc := 1206) d_law_1206 rfl rfl ?_
  obtain ⟨fsM1, tM1, hwM1⟩ := hM1.hd
  refine k_onR C (pc := 1207) (k_runV C (As := []) (rest := []) (ci := 7) (q0 := 0) (mi_thrown l D cA hm rH rL rC rP r1 r2 r3 hI2.ok hI2.n8 hM1) ⟨k_cwB C tW_5_43 tW_5_40 tW_1_8 okX7_thrown rfl rfl ⟨Nat.le_of_ble_eq_true rfl, Nat.le_of_ble_eq_true rfl⟩, C.w tW_5_41, C.w tW_5_42⟩ (by rw [hwM1]; rfl) rfl rfl rfl rfl (Nat.le_of_ble_eq_true rfl) d_law_1207 ⟨hcl 8 (by decide), hsl 64 (by decide)⟩) (fun v w4 hv => ?_)
  obtain ⟨t1, rfl, e3, hM2⟩ := hv
  refine k_eq (pc := 1210) (ws' := ((w2 ++ [(o, .inl (cA 5, 1, .inr (.inl f2)))]) ++ w4)) (st' := [.int t1]) rfl rfl rfl ?_
  refine k_widen (k := 2000 + 8 * i + 8) (n := 100000 + 64 * i + 64) (by omega) (by omega) ?_
  refine k_iload C 1 (pc := 1210) d_law_1210 rfl ?_
  refine k_icmp_eq C (pc := 1212) (tgt := 1217) d_law_1212 (by decide) (fun _ => ?_) (fun c_ => absurd (e3.trans e1.symm) c_)
  refine k_iload C 1 (pc := 1217) d_law_1217 rfl ?_
  have T2 : lwK p l e s m below meth c D b Q (2000 + 8 * i + 8) (100000 + 64 * i + 64) ((w2 ++ [(o, .inl (cA 5, 1, .inr (.inl f2)))]) ++ w4) 1234 [(6, .int x2), (5, .int k1), (0, .ref b), (1, .ref (h 0)), (2, .ref (hm 0)), (3, .ref o), (4, .int (nI (6 * i)))] [] := by
    refine k_goto C (pc := 1234) (tgt := 1412) d_law_1234 (by decide) ?_
    refine k_lv (pc := 1412) [2, 3, 4, 5, 6] (lv' := [(0, .ref b), (1, .ref (h 0)), (2, .ref (hm 0)), (3, .ref o), (4, .int (nI (6 * i)))]) rfl ?_
    exact nx _ S1 _ _ _ hI2 hM2
  refine k_if_ne C (pc := 1219) (tgt := 1234) d_law_1219 (by decide) (fun _ => T2) (fun c_ => ?_)
  refine k_aload_n C 5 (pc := 1222) d_law_1222 rfl rfl ?_
  refine k_iconst C (pc := 1223) (v := (0 : Int32)) d_law_1223 rfl ?_
  refine k_lald C (pc := 1224) w2.length (cc_get2 _ _ _) (vp_in_nI (n := 0) (by decide) (by decide)) d_law_1224 ?_
  refine k_iload C 0 (pc := 1225) d_law_1225 rfl ?_
  have hv : f2 0 = x2.toInt64 := (ho (e1.symm.trans c_)).trans (congrArg Int32.toInt64 e2).symm
  refine k_i2l C (pc := 1227) (v := x2.toInt64) d_law_1227 rfl ?_
  refine k_lcmp C (pc := 1228) d_law_1228 ?_
  have hz : lg_cmp (f2 (0 : Int32).toNatClampNeg) x2.toInt64 = 0 := by
    show lg_cmp (f2 0) _ = 0
    rw [hv]
    exact lg_self _
  exact k_if_eq C (pc := 1229) (tgt := 1234) d_law_1229 (by decide) (fun _ => T2) (fun c_ => absurd hz c_)
theorem d_law_1237 : decode code 1237 = .ok (.aload_n 1, 1) := by decide +kernel
theorem d_law_1238 : decode code 1238 = .ok (.aload_n 0, 1) := by decide +kernel
theorem d_law_1239 : decode code 1239 = .ok (.iload 4, 2) := by decide +kernel
theorem d_law_1241 : decode code 1241 = .ok (.iconst 1, 1) := by decide +kernel
theorem d_law_1242 : decode code 1242 = .ok (.iadd, 1) := by decide +kernel
theorem d_law_1243 : decode code 1243 = .ok (.iaload, 1) := by decide +kernel
theorem d_law_1244 : decode code 1244 = .ok (.aload_n 0, 1) := by decide +kernel
theorem d_law_1245 : decode code 1245 = .ok (.iload 4, 2) := by decide +kernel
theorem d_law_1247 : decode code 1247 = .ok (.iconst 2, 1) := by decide +kernel
theorem d_law_1248 : decode code 1248 = .ok (.iadd, 1) := by decide +kernel
theorem d_law_1249 : decode code 1249 = .ok (.iaload, 1) := by decide +kernel
theorem d_law_1250 : decode code 1250 = .ok (.aload_n 0, 1) := by decide +kernel
theorem d_law_1251 : decode code 1251 = .ok (.iload 4, 2) := by decide +kernel
theorem d_law_1253 : decode code 1253 = .ok (.iconst 3, 1) := by decide +kernel
theorem d_law_1254 : decode code 1254 = .ok (.iadd, 1) := by decide +kernel
theorem d_law_1255 : decode code 1255 = .ok (.iaload, 1) := by decide +kernel
theorem d_law_1256 : decode code 1256 = .ok (.aload_n 3, 1) := by decide +kernel
theorem d_law_1257 : decode code 1257 = .ok (.invokestatic 141, 3) := by decide +kernel
theorem d_law_1260 : decode code 1260 = .ok (.istore 5, 2) := by decide +kernel
theorem d_law_1262 : decode code 1262 = .ok (.aload_n 2, 1) := by decide +kernel
theorem d_law_1263 : decode code 1263 = .ok (.aload_n 0, 1) := by decide +kernel
theorem d_law_1264 : decode code 1264 = .ok (.iload 4, 2) := by decide +kernel
theorem d_law_1266 : decode code 1266 = .ok (.iconst 1, 1) := by decide +kernel
theorem d_law_1267 : decode code 1267 = .ok (.iadd, 1) := by decide +kernel
theorem d_law_1268 : decode code 1268 = .ok (.iaload, 1) := by decide +kernel
theorem d_law_1269 : decode code 1269 = .ok (.aload_n 0, 1) := by decide +kernel
theorem d_law_1270 : decode code 1270 = .ok (.iload 4, 2) := by decide +kernel
theorem d_law_1272 : decode code 1272 = .ok (.iconst 2, 1) := by decide +kernel
theorem d_law_1273 : decode code 1273 = .ok (.iadd, 1) := by decide +kernel
theorem d_law_1274 : decode code 1274 = .ok (.iaload, 1) := by decide +kernel
theorem d_law_1275 : decode code 1275 = .ok (.aload_n 0, 1) := by decide +kernel
theorem d_law_1276 : decode code 1276 = .ok (.iload 4, 2) := by decide +kernel
theorem d_law_1278 : decode code 1278 = .ok (.iconst 3, 1) := by decide +kernel
theorem d_law_1279 : decode code 1279 = .ok (.iadd, 1) := by decide +kernel
theorem d_law_1280 : decode code 1280 = .ok (.iaload, 1) := by decide +kernel
theorem d_law_1281 : decode code 1281 = .ok (.invokevirtual 143, 3) := by decide +kernel
theorem d_law_1284 : decode code 1284 = .ok (.istore 6, 2) := by decide +kernel
theorem d_law_1286 : decode code 1286 = .ok (.aload_n 2, 1) := by decide +kernel
theorem d_law_1287 : decode code 1287 = .ok (.invokevirtual 83, 3) := by decide +kernel
theorem d_law_1290 : decode code 1290 = .ok (.iload 5, 2) := by decide +kernel
theorem d_law_1292 : decode code 1292 = .ok (.if_icmp .eq 5, 3) := by decide +kernel
theorem d_law_1297 : decode code 1297 = .ok (.iload 5, 2) := by decide +kernel
theorem d_law_1299 : decode code 1299 = .ok (.ifCond .ne 15, 3) := by decide +kernel
theorem d_law_1302 : decode code 1302 = .ok (.aload_n 3, 1) := by decide +kernel
theorem d_law_1303 : decode code 1303 = .ok (.iconst 0, 1) := by decide +kernel
theorem d_law_1304 : decode code 1304 = .ok (.laload, 1) := by decide +kernel
theorem d_law_1305 : decode code 1305 = .ok (.iload 6, 2) := by decide +kernel
theorem d_law_1307 : decode code 1307 = .ok (.i2l, 1) := by decide +kernel
theorem d_law_1308 : decode code 1308 = .ok (.lcmp, 1) := by decide +kernel
theorem d_law_1309 : decode code 1309 = .ok (.ifCond .eq 5, 3) := by decide +kernel
theorem d_law_1314 : decode code 1314 = .ok (.goto 98, 3) := by decide +kernel
set_option maxHeartbeats 1000000 in
theorem law_c17 {p : Program} {l : Launch} {e : Env} {s : State} {m : MethodId} {below : List Frame} {meth : Method} {c : Code} {D : va_G} {cA : Nat → ClassId} {b L : Nat} {xs : Nat → Int32} (C : Cx p s m meth c code 9 #[Value.ref b] lw_tbl "WidowWatchLaw" D cA (fun q => s.heap.size ≤ q)) (hE : EvY D cA (fun q => s.heap.size ≤ q) s s.heap) (hst : l.stackTraces = false) (hX : va_X b L xs s s.heap) (hbl : b < s.heap.size) (o : Nat) (h ab ac ar hm rH rL rC rP r1 r2 r3 : Nat → Nat) {Q : State → Prop} (i : Nat) (hi : 6 * i + 6 ≤ L) (hL : L ≤ 3072) {f : Nat → Int64} {S : ivS} {th : Int32} {w wM : va_W} (hI : ivI cA h ab ac ar S false w) (hM : imI cA hm rH rL rC rP r1 r2 r3 S th wM) (nx : ∀ (f : Nat → Int64) (S : ivS) (th : Int32) (w wM : va_W), ivI cA h ab ac ar S false w → imI cA hm rH rL rC rP r1 r2 r3 S th wM → lwK p l e s m below meth c D b Q (2000 + 8 * i + 8) (100000 + 64 * i + 64) ((w ++ [(o, .inl (cA 5, 1, .inr (.inl f)))]) ++ wM) 1412 [(0, .ref b), (1, .ref (h 0)), (2, .ref (hm 0)), (3, .ref o), (4, .int (nI (6 * i)))] []) : lwK p l e s m below meth c D b Q (2000 + 8 * i) (100000 + 64 * i) ((w ++ [(o, .inl (cA 5, 1, .inr (.inl f)))]) ++ wM) 1237 [(0, .ref b), (1, .ref (h 0)), (2, .ref (hm 0)), (3, .ref o), (4, .int (nI (6 * i)))] [] := by
  have hbA : ¬ (fun q => s.heap.size ≤ q) b := Nat.not_le.mpr hbl
  have hcl : ∀ j, j ≤ 8 → 2000 + 8 * i + j ≤ room_1.cells := fun j hj => by
    show _ ≤ 601024
    omega
  have hsl : ∀ j, j ≤ 64 → 100000 + 64 * i + j ≤ room_1.slots := fun j hj => by
    show _ ≤ 7293034
    omega
  obtain ⟨fs, t, hw⟩ := hI.hd
  obtain ⟨fsM, tM, hwM⟩ := hM.hd
  refine k_aload_n C 1 (pc := 1237) d_law_1237 rfl rfl ?_
  refine k_aload_n C 0 (pc := 1238) d_law_1238 rfl rfl ?_
  refine k_iload C 4 (pc := 1239) d_law_1239 rfl ?_
  refine k_iconst C (pc := 1241) (v := (1 : Int32)) d_law_1241 rfl ?_
  refine k_iadd C (pc := 1242) d_law_1242 ?_
  refine k_sld C (pc := 1243) hX hbl hbA (lw_hin hi hL 1 (by decide)) d_law_1243 ?_
  refine k_aload_n C 0 (pc := 1244) d_law_1244 rfl rfl ?_
  refine k_iload C 4 (pc := 1245) d_law_1245 rfl ?_
  refine k_iconst C (pc := 1247) (v := (2 : Int32)) d_law_1247 rfl ?_
  refine k_iadd C (pc := 1248) d_law_1248 ?_
  refine k_sld C (pc := 1249) hX hbl hbA (lw_hin hi hL 2 (by decide)) d_law_1249 ?_
  refine k_aload_n C 0 (pc := 1250) d_law_1250 rfl rfl ?_
  refine k_iload C 4 (pc := 1251) d_law_1251 rfl ?_
  refine k_iconst C (pc := 1253) (v := (3 : Int32)) d_law_1253 rfl ?_
  refine k_iadd C (pc := 1254) d_law_1254 ?_
  refine k_sld C (pc := 1255) hX hbl hbA (lw_hin hi hL 3 (by decide)) d_law_1255 ?_
  refine k_aload_n C 3 (pc := 1256) d_law_1256 rfl rfl ?_
  refine kx_onL C (pc := 1257) (ky_runS C hE (As := [.ref (h 0), .int (xs (nI (6 * i) + (1 : Int32)).toNatClampNeg), .int (xs (nI (6 * i) + (2 : Int32)).toNatClampNeg), .int (xs (nI (6 * i) + (3 : Int32)).toNatClampNeg), .ref o]) (rest := []) (wl_retouch l D cA h ab ac ar hst (xs (nI (6 * i) + (1 : Int32)).toNatClampNeg) (xs (nI (6 * i) + (2 : Int32)).toNatClampNeg) (xs (nI (6 * i) + (3 : Int32)).toNatClampNeg) hI o f) (ky_cw C tYL_retouch tW_4_164 tW_1_0 tW_4_165 okL_retouch rfl rfl ⟨Nat.le_of_ble_eq_true rfl, Nat.le_of_ble_eq_true rfl⟩) rfl rfl (Nat.le_of_ble_eq_true rfl) d_law_1257 ⟨hcl 2 (by decide), hsl 12 (by decide)⟩) (fun v w1 h_ => by obtain ⟨r, rfl, -, w2, f2, rfl, h1, -⟩ := h_; rw [List.map_append, List.map_append, h1.ad, hI.ad]; rfl) (fun E w1 h_ => h_.elim) (fun E w1 hx => hx.elim) (fun v w1 hv => ?_)
  obtain ⟨k1, rfl, e1, w2, f2, rfl, hI1, ho⟩ := hv
  refine k_eq (pc := 1260) (ws' := ((w2 ++ [(o, .inl (cA 5, 1, .inr (.inl f2)))]) ++ wM)) (st' := [.int k1]) rfl rfl rfl ?_
  refine k_widen (k := 2000 + 8 * i + 8) (n := 100000 + 64 * i + 64) (by omega) (by omega) ?_
  refine k_istore C (pc := 1260) d_law_1260 (Nat.lt_of_lt_of_le (Nat.lt_succ_self _) (Nat.le_of_ble_eq_true rfl)) (lv' := [(5, .int k1), (0, .ref b), (1, .ref (h 0)), (2, .ref (hm 0)), (3, .ref o), (4, .int (nI (6 * i)))]) rfl ?_
  refine k_aload_n C 3 (pc := 1262) d_law_1262 rfl rfl ?_
  refine k_aload_n C 1 (pc := 1263) d_law_1263 rfl rfl ?_
  refine k_iload C 5 (pc := 1264) d_law_1264 rfl ?_
  refine k_iconst C (pc := 1266) (v := (1 : Int32)) d_law_1266 rfl ?_
  refine k_iadd C (pc := 1267) d_law_1267 ?_
  refine k_sld C (pc := 1268) hX hbl hbA (lw_hin hi hL 1 (by decide)) d_law_1268 ?_
  refine k_aload_n C 1 (pc := 1269) d_law_1269 rfl rfl ?_
  refine k_iload C 5 (pc := 1270) d_law_1270 rfl ?_
  refine k_iconst C (pc := 1272) (v := (2 : Int32)) d_law_1272 rfl ?_
  refine k_iadd C (pc := 1273) d_law_1273 ?_
  refine k_sld C (pc := 1274) hX hbl hbA (lw_hin hi hL 2 (by decide)) d_law_1274 ?_
  refine k_aload_n C 1 (pc := 1275) d_law_1275 rfl rfl ?_
  refine k_iload C 5 (pc := 1276) d_law_1276 rfl ?_
  refine k_iconst C (pc := 1278) (v := (3 : Int32)) d_law_1278 rfl ?_
  refine k_iadd C (pc := 1279) d_law_1279 ?_
  refine k_sld C (pc := 1280) hX hbl hbA (lw_hin hi hL 3 (by decide)) d_law_1280 ?_
  refine k_onR C (pc := 1281) (k_runV C (As := [.int (xs (nI (6 * i) + (1 : Int32)).toNatClampNeg), .int (xs (nI (6 * i) + (2 : Int32)).toNatClampNeg), .int (xs (nI (6 * i) + (3 : Int32)).toNatClampNeg)]) (rest := []) (ci := 7) (q0 := 0) (mi_retouch l D cA hm rH rL rC rP r1 r2 r3 (xs (nI (6 * i) + (1 : Int32)).toNatClampNeg) (xs (nI (6 * i) + (2 : Int32)).toNatClampNeg) (xs (nI (6 * i) + (3 : Int32)).toNatClampNeg) hI.ok hI.n8 hM) ⟨k_cwB C tW_6_75 tW_6_72 tW_1_8 okX7_retouch rfl rfl ⟨Nat.le_of_ble_eq_true rfl, Nat.le_of_ble_eq_true rfl⟩, C.w tW_6_73, C.w tW_6_74⟩ (by rw [hwM]; rfl) rfl rfl rfl rfl (Nat.le_of_ble_eq_true rfl) d_law_1281 ⟨hcl 8 (by decide), hsl 64 (by decide)⟩) (fun v w4 hv => ?_)
  obtain ⟨x2, rfl, e2, S1, hN, hM1⟩ := hv
  have hI2 := hI1.near hN
  refine k_eq (pc := 1284) (ws' := ((w2 ++ [(o, .inl (cA 5, 1, .inr (.inl f2)))]) ++ w4)) (st' := [.int x2]) rfl rfl rfl ?_
  refine k_widen (k := 2000 + 8 * i + 8) (n := 100000 + 64 * i + 64) (by omega) (by omega) ?_
  refine k_istore C (pc := 1284) d_law_1284 (Nat.lt_of_lt_of_le (Nat.lt_succ_self _) (Nat.le_of_ble_eq_true rfl)) (lv' := [(6, .int x2), (5, .int k1), (0, .ref b), (1, .ref (h 0)), (2, .ref (hm 0)), (3, .ref o), (4, .int (nI (6 * i)))]) rfl ?_
  refine k_aload_n C 4 (pc := 1286) d_law_1286 rfl rfl ?_
  obtain ⟨fsM1, tM1, hwM1⟩ := hM1.hd
  refine k_onR C (pc := 1287) (k_runV C (As := []) (rest := []) (ci := 7) (q0 := 0) (mi_thrown l D cA hm rH rL rC rP r1 r2 r3 hI2.ok hI2.n8 hM1) ⟨k_cwB C tW_5_43 tW_5_40 tW_1_8 okX7_thrown rfl rfl ⟨Nat.le_of_ble_eq_true rfl, Nat.le_of_ble_eq_true rfl⟩, C.w tW_5_41, C.w tW_5_42⟩ (by rw [hwM1]; rfl) rfl rfl rfl rfl (Nat.le_of_ble_eq_true rfl) d_law_1287 ⟨hcl 8 (by decide), hsl 64 (by decide)⟩) (fun v w4 hv => ?_)
  obtain ⟨t1, rfl, e3, hM2⟩ := hv
  refine k_eq (pc := 1290) (ws' := ((w2 ++ [(o, .inl (cA 5, 1, .inr (.inl f2)))]) ++ w4)) (st' := [.int t1]) rfl rfl rfl ?_
  refine k_widen (k := 2000 + 8 * i + 8) (n := 100000 + 64 * i + 64) (by omega) (by omega) ?_
  refine k_iload C 1 (pc := 1290) d_law_1290 rfl ?_
  refine k_icmp_eq C (pc := 1292) (tgt := 1297) d_law_1292 (by decide) (fun _ => ?_) (fun c_ => absurd (e3.trans e1.symm) c_)
  refine k_iload C 1 (pc := 1297) d_law_1297 rfl ?_
  have T2 : lwK p l e s m below meth c D b Q (2000 + 8 * i + 8) (100000 + 64 * i + 64) ((w2 ++ [(o, .inl (cA 5, 1, .inr (.inl f2)))]) ++ w4) 1314 [(6, .int x2), (5, .int k1), (0, .ref b), (1, .ref (h 0)), (2, .ref (hm 0)), (3, .ref o), (4, .int (nI (6 * i)))] [] := by
    refine k_goto C (pc := 1314) (tgt := 1412) d_law_1314 (by decide) ?_
    refine k_lv (pc := 1412) [2, 3, 4, 5, 6] (lv' := [(0, .ref b), (1, .ref (h 0)), (2, .ref (hm 0)), (3, .ref o), (4, .int (nI (6 * i)))]) rfl ?_
    exact nx _ S1 _ _ _ hI2 hM2
  refine k_if_ne C (pc := 1299) (tgt := 1314) d_law_1299 (by decide) (fun _ => T2) (fun c_ => ?_)
  refine k_aload_n C 5 (pc := 1302) d_law_1302 rfl rfl ?_
  refine k_iconst C (pc := 1303) (v := (0 : Int32)) d_law_1303 rfl ?_
  refine k_lald C (pc := 1304) w2.length (cc_get2 _ _ _) (vp_in_nI (n := 0) (by decide) (by decide)) d_law_1304 ?_
  refine k_iload C 0 (pc := 1305) d_law_1305 rfl ?_
  have hv : f2 0 = x2.toInt64 := (ho (e1.symm.trans c_)).trans (congrArg Int32.toInt64 e2).symm
  refine k_i2l C (pc := 1307) (v := x2.toInt64) d_law_1307 rfl ?_
  refine k_lcmp C (pc := 1308) d_law_1308 ?_
  have hz : lg_cmp (f2 (0 : Int32).toNatClampNeg) x2.toInt64 = 0 := by
    show lg_cmp (f2 0) _ = 0
    rw [hv]
    exact lg_self _
  exact k_if_eq C (pc := 1309) (tgt := 1314) d_law_1309 (by decide) (fun _ => T2) (fun c_ => absurd hz c_)
theorem d_law_1317 : decode code 1317 = .ok (.aload_n 1, 1) := by decide +kernel
theorem d_law_1318 : decode code 1318 = .ok (.aload_n 0, 1) := by decide +kernel
theorem d_law_1319 : decode code 1319 = .ok (.iload 4, 2) := by decide +kernel
theorem d_law_1321 : decode code 1321 = .ok (.iconst 1, 1) := by decide +kernel
theorem d_law_1322 : decode code 1322 = .ok (.iadd, 1) := by decide +kernel
theorem d_law_1323 : decode code 1323 = .ok (.iaload, 1) := by decide +kernel
theorem d_law_1324 : decode code 1324 = .ok (.aload_n 0, 1) := by decide +kernel
theorem d_law_1325 : decode code 1325 = .ok (.iload 4, 2) := by decide +kernel
theorem d_law_1327 : decode code 1327 = .ok (.iconst 2, 1) := by decide +kernel
theorem d_law_1328 : decode code 1328 = .ok (.iadd, 1) := by decide +kernel
theorem d_law_1329 : decode code 1329 = .ok (.iaload, 1) := by decide +kernel
theorem d_law_1330 : decode code 1330 = .ok (.aload_n 3, 1) := by decide +kernel
theorem d_law_1331 : decode code 1331 = .ok (.invokestatic 144, 3) := by decide +kernel
theorem d_law_1334 : decode code 1334 = .ok (.istore 5, 2) := by decide +kernel
theorem d_law_1336 : decode code 1336 = .ok (.aload_n 2, 1) := by decide +kernel
theorem d_law_1337 : decode code 1337 = .ok (.aload_n 0, 1) := by decide +kernel
theorem d_law_1338 : decode code 1338 = .ok (.iload 4, 2) := by decide +kernel
theorem d_law_1340 : decode code 1340 = .ok (.iconst 1, 1) := by decide +kernel
theorem d_law_1341 : decode code 1341 = .ok (.iadd, 1) := by decide +kernel
theorem d_law_1342 : decode code 1342 = .ok (.iaload, 1) := by decide +kernel
theorem d_law_1343 : decode code 1343 = .ok (.aload_n 0, 1) := by decide +kernel
theorem d_law_1344 : decode code 1344 = .ok (.iload 4, 2) := by decide +kernel
theorem d_law_1346 : decode code 1346 = .ok (.iconst 2, 1) := by decide +kernel
theorem d_law_1347 : decode code 1347 = .ok (.iadd, 1) := by decide +kernel
theorem d_law_1348 : decode code 1348 = .ok (.iaload, 1) := by decide +kernel
theorem d_law_1349 : decode code 1349 = .ok (.invokevirtual 146, 3) := by decide +kernel
theorem d_law_1352 : decode code 1352 = .ok (.istore 6, 2) := by decide +kernel
theorem d_law_1354 : decode code 1354 = .ok (.aload_n 2, 1) := by decide +kernel
theorem d_law_1355 : decode code 1355 = .ok (.invokevirtual 83, 3) := by decide +kernel
theorem d_law_1358 : decode code 1358 = .ok (.iload 5, 2) := by decide +kernel
theorem d_law_1360 : decode code 1360 = .ok (.if_icmp .eq 5, 3) := by decide +kernel
theorem d_law_1365 : decode code 1365 = .ok (.iload 5, 2) := by decide +kernel
theorem d_law_1367 : decode code 1367 = .ok (.ifCond .ne 15, 3) := by decide +kernel
theorem d_law_1370 : decode code 1370 = .ok (.aload_n 3, 1) := by decide +kernel
theorem d_law_1371 : decode code 1371 = .ok (.iconst 0, 1) := by decide +kernel
theorem d_law_1372 : decode code 1372 = .ok (.laload, 1) := by decide +kernel
theorem d_law_1373 : decode code 1373 = .ok (.iload 6, 2) := by decide +kernel
theorem d_law_1375 : decode code 1375 = .ok (.i2l, 1) := by decide +kernel
theorem d_law_1376 : decode code 1376 = .ok (.lcmp, 1) := by decide +kernel
theorem d_law_1377 : decode code 1377 = .ok (.ifCond .eq 5, 3) := by decide +kernel
theorem d_law_1382 : decode code 1382 = .ok (.goto 30, 3) := by decide +kernel
set_option maxHeartbeats 1000000 in
theorem law_c18 {p : Program} {l : Launch} {e : Env} {s : State} {m : MethodId} {below : List Frame} {meth : Method} {c : Code} {D : va_G} {cA : Nat → ClassId} {b L : Nat} {xs : Nat → Int32} (C : Cx p s m meth c code 9 #[Value.ref b] lw_tbl "WidowWatchLaw" D cA (fun q => s.heap.size ≤ q)) (hE : EvY D cA (fun q => s.heap.size ≤ q) s s.heap) (hst : l.stackTraces = false) (hX : va_X b L xs s s.heap) (hbl : b < s.heap.size) (o : Nat) (h ab ac ar hm rH rL rC rP r1 r2 r3 : Nat → Nat) {Q : State → Prop} (i : Nat) (hi : 6 * i + 6 ≤ L) (hL : L ≤ 3072) {f : Nat → Int64} {S : ivS} {th : Int32} {w wM : va_W} (hI : ivI cA h ab ac ar S false w) (hM : imI cA hm rH rL rC rP r1 r2 r3 S th wM) (nx : ∀ (f : Nat → Int64) (S : ivS) (th : Int32) (w wM : va_W), ivI cA h ab ac ar S false w → imI cA hm rH rL rC rP r1 r2 r3 S th wM → lwK p l e s m below meth c D b Q (2000 + 8 * i + 8) (100000 + 64 * i + 64) ((w ++ [(o, .inl (cA 5, 1, .inr (.inl f)))]) ++ wM) 1412 [(0, .ref b), (1, .ref (h 0)), (2, .ref (hm 0)), (3, .ref o), (4, .int (nI (6 * i)))] []) : lwK p l e s m below meth c D b Q (2000 + 8 * i) (100000 + 64 * i) ((w ++ [(o, .inl (cA 5, 1, .inr (.inl f)))]) ++ wM) 1317 [(0, .ref b), (1, .ref (h 0)), (2, .ref (hm 0)), (3, .ref o), (4, .int (nI (6 * i)))] [] := by
  have hbA : ¬ (fun q => s.heap.size ≤ q) b := Nat.not_le.mpr hbl
  have hcl : ∀ j, j ≤ 8 → 2000 + 8 * i + j ≤ room_1.cells := fun j hj => by
    show _ ≤ 601024
    omega
  have hsl : ∀ j, j ≤ 64 → 100000 + 64 * i + j ≤ room_1.slots := fun j hj => by
    show _ ≤ 7293034
    omega
  obtain ⟨fs, t, hw⟩ := hI.hd
  obtain ⟨fsM, tM, hwM⟩ := hM.hd
  refine k_aload_n C 1 (pc := 1317) d_law_1317 rfl rfl ?_
  refine k_aload_n C 0 (pc := 1318) d_law_1318 rfl rfl ?_
  refine k_iload C 4 (pc := 1319) d_law_1319 rfl ?_
  refine k_iconst C (pc := 1321) (v := (1 : Int32)) d_law_1321 rfl ?_
  refine k_iadd C (pc := 1322) d_law_1322 ?_
  refine k_sld C (pc := 1323) hX hbl hbA (lw_hin hi hL 1 (by decide)) d_law_1323 ?_
  refine k_aload_n C 0 (pc := 1324) d_law_1324 rfl rfl ?_
  refine k_iload C 4 (pc := 1325) d_law_1325 rfl ?_
  refine k_iconst C (pc := 1327) (v := (2 : Int32)) d_law_1327 rfl ?_
  refine k_iadd C (pc := 1328) d_law_1328 ?_
  refine k_sld C (pc := 1329) hX hbl hbA (lw_hin hi hL 2 (by decide)) d_law_1329 ?_
  refine k_aload_n C 3 (pc := 1330) d_law_1330 rfl rfl ?_
  refine kx_onL C (pc := 1331) (ky_runS C hE (As := [.ref (h 0), .int (xs (nI (6 * i) + (1 : Int32)).toNatClampNeg), .int (xs (nI (6 * i) + (2 : Int32)).toNatClampNeg), .ref o]) (rest := []) (wl_setCost l D cA h ab ac ar hst (xs (nI (6 * i) + (1 : Int32)).toNatClampNeg) (xs (nI (6 * i) + (2 : Int32)).toNatClampNeg) hI o f) (ky_cw C tYL_setCost tW_4_178 tW_1_0 tW_4_179 okL_setCost rfl rfl ⟨Nat.le_of_ble_eq_true rfl, Nat.le_of_ble_eq_true rfl⟩) rfl rfl (Nat.le_of_ble_eq_true rfl) d_law_1331 ⟨hcl 1 (by decide), hsl 6 (by decide)⟩) (fun v w1 h_ => by obtain ⟨r, rfl, -, w2, f2, rfl, h1, -⟩ := h_; rw [List.map_append, List.map_append, h1.ad, hI.ad]; rfl) (fun E w1 h_ => h_.elim) (fun E w1 hx => hx.elim) (fun v w1 hv => ?_)
  obtain ⟨k1, rfl, e1, w2, f2, rfl, hI1, ho⟩ := hv
  refine k_eq (pc := 1334) (ws' := ((w2 ++ [(o, .inl (cA 5, 1, .inr (.inl f2)))]) ++ wM)) (st' := [.int k1]) rfl rfl rfl ?_
  refine k_widen (k := 2000 + 8 * i + 8) (n := 100000 + 64 * i + 64) (by omega) (by omega) ?_
  refine k_istore C (pc := 1334) d_law_1334 (Nat.lt_of_lt_of_le (Nat.lt_succ_self _) (Nat.le_of_ble_eq_true rfl)) (lv' := [(5, .int k1), (0, .ref b), (1, .ref (h 0)), (2, .ref (hm 0)), (3, .ref o), (4, .int (nI (6 * i)))]) rfl ?_
  refine k_aload_n C 3 (pc := 1336) d_law_1336 rfl rfl ?_
  refine k_aload_n C 1 (pc := 1337) d_law_1337 rfl rfl ?_
  refine k_iload C 5 (pc := 1338) d_law_1338 rfl ?_
  refine k_iconst C (pc := 1340) (v := (1 : Int32)) d_law_1340 rfl ?_
  refine k_iadd C (pc := 1341) d_law_1341 ?_
  refine k_sld C (pc := 1342) hX hbl hbA (lw_hin hi hL 1 (by decide)) d_law_1342 ?_
  refine k_aload_n C 1 (pc := 1343) d_law_1343 rfl rfl ?_
  refine k_iload C 5 (pc := 1344) d_law_1344 rfl ?_
  refine k_iconst C (pc := 1346) (v := (2 : Int32)) d_law_1346 rfl ?_
  refine k_iadd C (pc := 1347) d_law_1347 ?_
  refine k_sld C (pc := 1348) hX hbl hbA (lw_hin hi hL 2 (by decide)) d_law_1348 ?_
  refine k_onR C (pc := 1349) (k_runV C (As := [.int (xs (nI (6 * i) + (1 : Int32)).toNatClampNeg), .int (xs (nI (6 * i) + (2 : Int32)).toNatClampNeg)]) (rest := []) (ci := 7) (q0 := 0) (mi_setCost l D cA hm rH rL rC rP r1 r2 r3 (xs (nI (6 * i) + (1 : Int32)).toNatClampNeg) (xs (nI (6 * i) + (2 : Int32)).toNatClampNeg) hI.ok hI.n8 hM) ⟨k_cwB C tW_6_79 tW_6_76 tW_1_8 okX7_setCost rfl rfl ⟨Nat.le_of_ble_eq_true rfl, Nat.le_of_ble_eq_true rfl⟩, C.w tW_6_77, C.w tW_6_78⟩ (by rw [hwM]; rfl) rfl rfl rfl rfl (Nat.le_of_ble_eq_true rfl) d_law_1349 ⟨hcl 8 (by decide), hsl 64 (by decide)⟩) (fun v w4 hv => ?_)
  obtain ⟨x2, rfl, e2, S1, hN, hM1⟩ := hv
  have hI2 := hI1.near hN
  refine k_eq (pc := 1352) (ws' := ((w2 ++ [(o, .inl (cA 5, 1, .inr (.inl f2)))]) ++ w4)) (st' := [.int x2]) rfl rfl rfl ?_
  refine k_widen (k := 2000 + 8 * i + 8) (n := 100000 + 64 * i + 64) (by omega) (by omega) ?_
  refine k_istore C (pc := 1352) d_law_1352 (Nat.lt_of_lt_of_le (Nat.lt_succ_self _) (Nat.le_of_ble_eq_true rfl)) (lv' := [(6, .int x2), (5, .int k1), (0, .ref b), (1, .ref (h 0)), (2, .ref (hm 0)), (3, .ref o), (4, .int (nI (6 * i)))]) rfl ?_
  refine k_aload_n C 4 (pc := 1354) d_law_1354 rfl rfl ?_
  obtain ⟨fsM1, tM1, hwM1⟩ := hM1.hd
  refine k_onR C (pc := 1355) (k_runV C (As := []) (rest := []) (ci := 7) (q0 := 0) (mi_thrown l D cA hm rH rL rC rP r1 r2 r3 hI2.ok hI2.n8 hM1) ⟨k_cwB C tW_5_43 tW_5_40 tW_1_8 okX7_thrown rfl rfl ⟨Nat.le_of_ble_eq_true rfl, Nat.le_of_ble_eq_true rfl⟩, C.w tW_5_41, C.w tW_5_42⟩ (by rw [hwM1]; rfl) rfl rfl rfl rfl (Nat.le_of_ble_eq_true rfl) d_law_1355 ⟨hcl 8 (by decide), hsl 64 (by decide)⟩) (fun v w4 hv => ?_)
  obtain ⟨t1, rfl, e3, hM2⟩ := hv
  refine k_eq (pc := 1358) (ws' := ((w2 ++ [(o, .inl (cA 5, 1, .inr (.inl f2)))]) ++ w4)) (st' := [.int t1]) rfl rfl rfl ?_
  refine k_widen (k := 2000 + 8 * i + 8) (n := 100000 + 64 * i + 64) (by omega) (by omega) ?_
  refine k_iload C 1 (pc := 1358) d_law_1358 rfl ?_
  refine k_icmp_eq C (pc := 1360) (tgt := 1365) d_law_1360 (by decide) (fun _ => ?_) (fun c_ => absurd (e3.trans e1.symm) c_)
  refine k_iload C 1 (pc := 1365) d_law_1365 rfl ?_
  have T2 : lwK p l e s m below meth c D b Q (2000 + 8 * i + 8) (100000 + 64 * i + 64) ((w2 ++ [(o, .inl (cA 5, 1, .inr (.inl f2)))]) ++ w4) 1382 [(6, .int x2), (5, .int k1), (0, .ref b), (1, .ref (h 0)), (2, .ref (hm 0)), (3, .ref o), (4, .int (nI (6 * i)))] [] := by
    refine k_goto C (pc := 1382) (tgt := 1412) d_law_1382 (by decide) ?_
    refine k_lv (pc := 1412) [2, 3, 4, 5, 6] (lv' := [(0, .ref b), (1, .ref (h 0)), (2, .ref (hm 0)), (3, .ref o), (4, .int (nI (6 * i)))]) rfl ?_
    exact nx _ S1 _ _ _ hI2 hM2
  refine k_if_ne C (pc := 1367) (tgt := 1382) d_law_1367 (by decide) (fun _ => T2) (fun c_ => ?_)
  refine k_aload_n C 5 (pc := 1370) d_law_1370 rfl rfl ?_
  refine k_iconst C (pc := 1371) (v := (0 : Int32)) d_law_1371 rfl ?_
  refine k_lald C (pc := 1372) w2.length (cc_get2 _ _ _) (vp_in_nI (n := 0) (by decide) (by decide)) d_law_1372 ?_
  refine k_iload C 0 (pc := 1373) d_law_1373 rfl ?_
  have hv : f2 0 = x2.toInt64 := (ho (e1.symm.trans c_)).trans (congrArg Int32.toInt64 e2).symm
  refine k_i2l C (pc := 1375) (v := x2.toInt64) d_law_1375 rfl ?_
  refine k_lcmp C (pc := 1376) d_law_1376 ?_
  have hz : lg_cmp (f2 (0 : Int32).toNatClampNeg) x2.toInt64 = 0 := by
    show lg_cmp (f2 0) _ = 0
    rw [hv]
    exact lg_self _
  exact k_if_eq C (pc := 1377) (tgt := 1382) d_law_1377 (by decide) (fun _ => T2) (fun c_ => absurd hz c_)
theorem d_law_1385 : decode code 1385 = .ok (.aload_n 1, 1) := by decide +kernel
theorem d_law_1386 : decode code 1386 = .ok (.invokevirtual 147, 3) := by decide +kernel
theorem d_law_1389 : decode code 1389 = .ok (.aload_n 2, 1) := by decide +kernel
theorem d_law_1390 : decode code 1390 = .ok (.invokevirtual 150, 3) := by decide +kernel
theorem d_law_1393 : decode code 1393 = .ok (.if_icmp .eq 19, 3) := by decide +kernel
set_option maxHeartbeats 1000000 in
theorem law_c19 {p : Program} {l : Launch} {e : Env} {s : State} {m : MethodId} {below : List Frame} {meth : Method} {c : Code} {D : va_G} {cA : Nat → ClassId} {b L : Nat} {xs : Nat → Int32} (C : Cx p s m meth c code 9 #[Value.ref b] lw_tbl "WidowWatchLaw" D cA (fun q => s.heap.size ≤ q)) (hE : EvY D cA (fun q => s.heap.size ≤ q) s s.heap) (hst : l.stackTraces = false) (hX : va_X b L xs s s.heap) (hbl : b < s.heap.size) (o : Nat) (h ab ac ar hm rH rL rC rP r1 r2 r3 : Nat → Nat) {Q : State → Prop} (i : Nat) (hi : 6 * i + 6 ≤ L) (hL : L ≤ 3072) {f : Nat → Int64} {S : ivS} {th : Int32} {w wM : va_W} (hI : ivI cA h ab ac ar S false w) (hM : imI cA hm rH rL rC rP r1 r2 r3 S th wM) (nx : ∀ (f : Nat → Int64) (S : ivS) (th : Int32) (w wM : va_W), ivI cA h ab ac ar S false w → imI cA hm rH rL rC rP r1 r2 r3 S th wM → lwK p l e s m below meth c D b Q (2000 + 8 * i + 8) (100000 + 64 * i + 64) ((w ++ [(o, .inl (cA 5, 1, .inr (.inl f)))]) ++ wM) 1412 [(0, .ref b), (1, .ref (h 0)), (2, .ref (hm 0)), (3, .ref o), (4, .int (nI (6 * i)))] []) : lwK p l e s m below meth c D b Q (2000 + 8 * i) (100000 + 64 * i) ((w ++ [(o, .inl (cA 5, 1, .inr (.inl f)))]) ++ wM) 1385 [(0, .ref b), (1, .ref (h 0)), (2, .ref (hm 0)), (3, .ref o), (4, .int (nI (6 * i)))] [] := by
  have hbA : ¬ (fun q => s.heap.size ≤ q) b := Nat.not_le.mpr hbl
  have hcl : ∀ j, j ≤ 8 → 2000 + 8 * i + j ≤ room_1.cells := fun j hj => by
    show _ ≤ 601024
    omega
  have hsl : ∀ j, j ≤ 64 → 100000 + 64 * i + j ≤ room_1.slots := fun j hj => by
    show _ ≤ 7293034
    omega
  obtain ⟨fs, t, hw⟩ := hI.hd
  obtain ⟨fsM, tM, hwM⟩ := hM.hd
  refine k_aload_n C 1 (pc := 1385) d_law_1385 rfl rfl ?_
  refine k_eq (pc := 1386) (ws' := w ++ ([(o, .inl (cA 5, 1, .inr (.inl f)))] ++ wM)) (List.append_assoc _ _ _) rfl rfl ?_
  refine k_onL C (pc := 1386) (k_runV C (As := []) (rest := []) (ci := 6) (q0 := 0) (xi_undo l D cA h ab ac ar  hI) ⟨k_cwB C tW_2_174 tW_2_171 tW_1_1 okX6_undo rfl rfl ⟨Nat.le_of_ble_eq_true rfl, Nat.le_of_ble_eq_true rfl⟩, C.w tW_2_172, C.w tW_2_173⟩ (by rw [hw]; rfl) rfl rfl rfl rfl (Nat.le_of_ble_eq_true rfl) d_law_1386 ⟨hcl 0 (by decide), hsl 0 (by decide)⟩) (fun v w1 hv => ?_)
  obtain ⟨x1, rfl, -, e1, hI1⟩ := hv
  refine k_eq (pc := 1389) (ws' := ((w1 ++ [(o, .inl (cA 5, 1, .inr (.inl f)))]) ++ wM)) (st' := [.int x1]) (List.append_assoc _ _ _).symm rfl rfl ?_
  refine k_widen (k := 2000 + 8 * i + 8) (n := 100000 + 64 * i + 64) (by omega) (by omega) ?_
  refine k_aload_n C 2 (pc := 1389) d_law_1389 rfl rfl ?_
  refine k_onR C (pc := 1390) (k_runV C (As := []) (rest := [.int x1]) (ci := 7) (q0 := 0) (mi_undo l D cA hm rH rL rC rP r1 r2 r3  hI.ok hI.n8 hM) ⟨k_cwB C tW_6_83 tW_6_80 tW_1_8 okX7_undo rfl rfl ⟨Nat.le_of_ble_eq_true rfl, Nat.le_of_ble_eq_true rfl⟩, C.w tW_6_81, C.w tW_6_82⟩ (by rw [hwM]; rfl) rfl rfl rfl rfl (Nat.le_of_ble_eq_true rfl) d_law_1390 ⟨hcl 8 (by decide), hsl 64 (by decide)⟩) (fun v w4 hv => ?_)
  obtain ⟨x2, rfl, e2, S1, hN, hM1⟩ := hv
  have hI2 := hI1.near hN
  refine k_eq (pc := 1393) (ws' := ((w1 ++ [(o, .inl (cA 5, 1, .inr (.inl f)))]) ++ w4)) (st' := [.int x2, .int x1]) rfl rfl rfl ?_
  refine k_widen (k := 2000 + 8 * i + 8) (n := 100000 + 64 * i + 64) (by omega) (by omega) ?_
  refine k_icmp_eq C (pc := 1393) (tgt := 1412) d_law_1393 (by decide) (fun _ => ?_) (fun c_ => absurd (e1.trans e2.symm) c_)
  refine k_lv (pc := 1412) [0, 1, 2, 3, 4] (lv' := [(0, .ref b), (1, .ref (h 0)), (2, .ref (hm 0)), (3, .ref o), (4, .int (nI (6 * i)))]) rfl ?_
  exact nx _ S1 _ _ _ hI2 hM1
theorem d_law_1398 : decode code 1398 = .ok (.aload_n 1, 1) := by decide +kernel
theorem d_law_1399 : decode code 1399 = .ok (.invokevirtual 151, 3) := by decide +kernel
theorem d_law_1402 : decode code 1402 = .ok (.aload_n 2, 1) := by decide +kernel
theorem d_law_1403 : decode code 1403 = .ok (.invokevirtual 155, 3) := by decide +kernel
theorem d_law_1406 : decode code 1406 = .ok (.lcmp, 1) := by decide +kernel
theorem d_law_1407 : decode code 1407 = .ok (.ifCond .eq 5, 3) := by decide +kernel
set_option maxHeartbeats 1000000 in
theorem law_c20 {p : Program} {l : Launch} {e : Env} {s : State} {m : MethodId} {below : List Frame} {meth : Method} {c : Code} {D : va_G} {cA : Nat → ClassId} {b L : Nat} {xs : Nat → Int32} (C : Cx p s m meth c code 9 #[Value.ref b] lw_tbl "WidowWatchLaw" D cA (fun q => s.heap.size ≤ q)) (hE : EvY D cA (fun q => s.heap.size ≤ q) s s.heap) (hst : l.stackTraces = false) (hX : va_X b L xs s s.heap) (hbl : b < s.heap.size) (o : Nat) (h ab ac ar hm rH rL rC rP r1 r2 r3 : Nat → Nat) {Q : State → Prop} (i : Nat) (hi : 6 * i + 6 ≤ L) (hL : L ≤ 3072) {f : Nat → Int64} {S : ivS} {th : Int32} {w wM : va_W} (hI : ivI cA h ab ac ar S false w) (hM : imI cA hm rH rL rC rP r1 r2 r3 S th wM) (nx : ∀ (f : Nat → Int64) (S : ivS) (th : Int32) (w wM : va_W), ivI cA h ab ac ar S false w → imI cA hm rH rL rC rP r1 r2 r3 S th wM → lwK p l e s m below meth c D b Q (2000 + 8 * i + 8) (100000 + 64 * i + 64) ((w ++ [(o, .inl (cA 5, 1, .inr (.inl f)))]) ++ wM) 1412 [(0, .ref b), (1, .ref (h 0)), (2, .ref (hm 0)), (3, .ref o), (4, .int (nI (6 * i)))] []) : lwK p l e s m below meth c D b Q (2000 + 8 * i) (100000 + 64 * i) ((w ++ [(o, .inl (cA 5, 1, .inr (.inl f)))]) ++ wM) 1398 [(0, .ref b), (1, .ref (h 0)), (2, .ref (hm 0)), (3, .ref o), (4, .int (nI (6 * i)))] [] := by
  have hbA : ¬ (fun q => s.heap.size ≤ q) b := Nat.not_le.mpr hbl
  have hcl : ∀ j, j ≤ 8 → 2000 + 8 * i + j ≤ room_1.cells := fun j hj => by
    show _ ≤ 601024
    omega
  have hsl : ∀ j, j ≤ 64 → 100000 + 64 * i + j ≤ room_1.slots := fun j hj => by
    show _ ≤ 7293034
    omega
  obtain ⟨fs, t, hw⟩ := hI.hd
  obtain ⟨fsM, tM, hwM⟩ := hM.hd
  refine k_aload_n C 1 (pc := 1398) d_law_1398 rfl rfl ?_
  refine k_eq (pc := 1399) (ws' := w ++ ([(o, .inl (cA 5, 1, .inr (.inl f)))] ++ wM)) (List.append_assoc _ _ _) rfl rfl ?_
  refine k_onL C (pc := 1399) (k_runV C (As := []) (rest := []) (ci := 6) (q0 := 0) (xi_checksum l D cA h ab ac ar  hI) ⟨k_cwB C tW_2_215 tW_2_212 tW_1_1 okX6_checksum rfl rfl ⟨Nat.le_of_ble_eq_true rfl, Nat.le_of_ble_eq_true rfl⟩, C.w tW_2_213, C.w tW_2_214⟩ (by rw [hw]; rfl) rfl rfl rfl rfl (Nat.le_of_ble_eq_true rfl) d_law_1399 ⟨hcl 0 (by decide), hsl 0 (by decide)⟩) (fun v w1 hv => ?_)
  obtain ⟨x1, rfl, e1, hI1⟩ := hv
  refine k_eq (pc := 1402) (ws' := ((w1 ++ [(o, .inl (cA 5, 1, .inr (.inl f)))]) ++ wM)) (st' := [.long x1]) (List.append_assoc _ _ _).symm rfl rfl ?_
  refine k_widen (k := 2000 + 8 * i + 8) (n := 100000 + 64 * i + 64) (by omega) (by omega) ?_
  refine k_aload_n C 2 (pc := 1402) d_law_1402 rfl rfl ?_
  refine k_onR C (pc := 1403) (k_runV C (As := []) (rest := [.long x1]) (ci := 7) (q0 := 0) (mi_checksum l D cA hm rH rL rC rP r1 r2 r3  hI.ok hI.n8 hM) ⟨k_cwB C tW_6_87 tW_6_84 tW_1_8 okX7_checksum rfl rfl ⟨Nat.le_of_ble_eq_true rfl, Nat.le_of_ble_eq_true rfl⟩, C.w tW_6_85, C.w tW_6_86⟩ (by rw [hwM]; rfl) rfl rfl rfl rfl (Nat.le_of_ble_eq_true rfl) d_law_1403 ⟨hcl 8 (by decide), hsl 64 (by decide)⟩) (fun v w4 hv => ?_)
  obtain ⟨x2, rfl, e2, hM1⟩ := hv
  refine k_eq (pc := 1406) (ws' := ((w1 ++ [(o, .inl (cA 5, 1, .inr (.inl f)))]) ++ w4)) (st' := [.long x2, .long x1]) rfl rfl rfl ?_
  refine k_widen (k := 2000 + 8 * i + 8) (n := 100000 + 64 * i + 64) (by omega) (by omega) ?_
  refine k_lcmp C (pc := 1406) d_law_1406 ?_
  have hz : lg_cmp x1 x2 = 0 := by
    rw [e1, e2]
    exact lg_self _
  refine k_if_eq C (pc := 1407) (tgt := 1412) d_law_1407 (by decide) (fun _ => ?_) (fun c_ => absurd hz c_)
  refine k_lv (pc := 1412) [0, 1, 2, 3, 4] (lv' := [(0, .ref b), (1, .ref (h 0)), (2, .ref (hm 0)), (3, .ref o), (4, .int (nI (6 * i)))]) rfl ?_
  exact nx _ S _ _ _ hI1 hM1
