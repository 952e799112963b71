/-! THE LAW'S WRAPPERS over the class's invariant and the law's own cells -/
def an1 (R : ivR) (c1 : Int32) : Int32 := if R.1 = 0 then R.2.1 else c1
def an2 (R : ivR) (c1 c2 : Int32) : Int32 := if R.1 = 0 then R.2.1 else if R.1 = 1 then c1 else c2
def an3 (R : ivR) (c1 c2 c3 : Int32) : Int32 := if R.1 = 0 then R.2.1 else if R.1 = 1 then c1 else if R.1 = 2 then c2 else c3
theorem an1_0 {R : ivR} {c1 : Int32} (h : R.1 = 0) : an1 R c1 = R.2.1 := if_pos h
theorem an1_1 {R : ivR} {c1 : Int32} (h : R.1 = 1) : an1 R c1 = c1 := if_neg (by rw [h]; decide)
theorem an2_0 {R : ivR} {c1 c2 : Int32} (h : R.1 = 0) : an2 R c1 c2 = R.2.1 := if_pos h
theorem an2_1 {R : ivR} {c1 c2 : Int32} (h : R.1 = 1) : an2 R c1 c2 = c1 := by unfold an2; rw [h]; rfl
theorem an2_2 {R : ivR} {c1 c2 : Int32} (h : R.1 = 2) : an2 R c1 c2 = c2 := by unfold an2; rw [h]; rfl
theorem an3_0 {R : ivR} {c1 c2 c3 : Int32} (h : R.1 = 0) : an3 R c1 c2 c3 = R.2.1 := if_pos h
theorem an3_1 {R : ivR} {c1 c2 c3 : Int32} (h : R.1 = 1) : an3 R c1 c2 c3 = c1 := by unfold an3; rw [h]; rfl
theorem an3_2 {R : ivR} {c1 c2 c3 : Int32} (h : R.1 = 2) : an3 R c1 c2 c3 = c2 := by unfold an3; rw [h]; rfl
theorem an3_3 {R : ivR} {c1 c2 c3 : Int32} (h : R.1 = 3) : an3 R c1 c2 c3 = c3 := by unfold an3; rw [h]; rfl
theorem s_begin_01 {S : ivS} {a1 : Int32} {b : Bool} (h : (s_begin S a1 b).1 = 0) : (s_begin S a1 b).2.1 = 0 ∨ (s_begin S a1 b).2.1 = 1 := by
  by_cases hp : inR a1 (dP S.1)
  · have e : s_begin S a1 b = rEd S (bI (dB S.1 (nz a1))) (upd S.1 (11 + 34 * nz a1 + 1) (bI b)) := cif_y hp
    rw [e]
    exact bI_01 _
  · have e : s_begin S a1 b = rNo S 1 := cif_n hp
    rw [e] at h
    exact absurd (show (1 : Int32) = 0 from h) (by decide)
/-! load -/
theorem dL_load_0 : decode cL_load 0 = .ok (.aload_n 0, 1) := by decide +kernel
theorem dL_load_1 : decode cL_load 1 = .ok (.iload_n 1, 1) := by decide +kernel
theorem dL_load_2 : decode cL_load 2 = .ok (.invokevirtual 37, 3) := by decide +kernel
theorem dL_load_5 : decode cL_load 5 = .ok (.ireturn, 1) := by decide +kernel
theorem dL_load_6 : decode cL_load 6 = .ok (.astore_n 2, 1) := by decide +kernel
theorem dL_load_7 : decode cL_load 7 = .ok (.ldc 42, 2) := by decide +kernel
theorem dL_load_9 : decode cL_load 9 = .ok (.ireturn, 1) := by decide +kernel
theorem okL_load : okY yL_load 2 := ⟨by decide +kernel, by decide +kernel, by decide +kernel⟩
theorem tYL_load : Cond.codeWith yL_load cL_load 3 (some .int) [(0, 5, 6, 40)] ∈ W0 := W0_2 (i := 174) rfl rfl
set_option maxHeartbeats 1000000 in
theorem wl_load (l : Launch) (D : va_G) (cA : Nat → ClassId) (h ab ac ar : Nat → Nat) (hst : l.stackTraces = false) (a1 : Int32) {S : ivS} {z : Bool} {w ws : va_W} {mu : Mu} (hI : ivI cA h ab ac ar S z w) (hR : LR cA w ws mu) : ConY l D cA yL_load (wmW yL_load cL_load 3 (some .int) [(0, 5, 6, 40)]) { frames := 9, cells := 1, slots := 6, locals := 200 } ws [.ref (h 0), .int a1] 1 6 (PI (fun r w2 => ∃ w1, ivI cA h ab ac ar (s_load S a1).2.2.2 (s_load S a1).2.2.1 w1 ∧ LR cA w1 w2 mu ∧ r = an1 (s_load S a1) (-2000000098))) := by
  obtain ⟨l0, rfl, hl⟩ := hR
  obtain ⟨fs, t, hw⟩ := hI.hd
  refine ConY.of (by decide) (Nat.le_of_ble_eq_true rfl) ?_
  intro p e s m args below meth c C hE hT hr
  refine k_eq (ws' := w ++ l0) (lv' := [(0, .ref (h 0)), (1, .int a1)]) (st' := []) rfl rfl rfl ?_
  refine k_aload_n C 0 (pc := 0) dL_load_0 rfl rfl ?_
  refine k_iload_n C 1 (pc := 1) dL_load_1 rfl rfl ?_
  refine kx_onL C (pc := 2) (kx_runV C hE.1 (As := [.int a1]) (rest := []) (ci := 6) (q0 := 0) (xi_load l D cA h ab ac ar hst a1 hI) ⟨k_cwB C tW_2_179 tW_2_176 tW_1_1 okX6_load rfl rfl ⟨Nat.le_of_ble_eq_true rfl, Nat.le_of_ble_eq_true rfl⟩, C.w tW_2_177, C.w tW_2_178⟩ (by rw [hw]; rfl) rfl rfl rfl rfl (Nat.le_of_ble_eq_true rfl) dL_load_2 ⟨Nat.le_of_ble_eq_true rfl, Nat.le_of_ble_eq_true rfl⟩) (fun v w1 h_ => by obtain ⟨r, rfl, h1⟩ := h_; exact h1.2.2.ad.trans hI.ad.symm) (fun E w1 h_ => by rcases h_ with ⟨-, h1⟩ <;> exact h1.2.ad.trans hI.ad.symm) (fun E w1 hx => ?_) (fun v w1 hv => ?_)
  · obtain ⟨rfl, h1, h2⟩ := hx
    refine ky_catch C (pc := 2) (pre := []) (suf := []) (0, 5, 6, 40) hT rfl (fun _ h_ => absurd h_ List.not_mem_nil) (by decide) (by decide) tW_2_175 (va_Nw.use rfl (hE.1.2.2.2.1 "java/lang/IllegalArgumentException" (List.mem_of_getElem? (i := 0) rfl))) (fun q_ => ?_)
    refine k_astore_n C (pc := 6) dL_load_6 rfl (Nat.lt_of_lt_of_le (Nat.lt_succ_self _) (Nat.le_of_ble_eq_true rfl)) (lv' := [(2, .ref q_), (0, .ref (h 0)), (1, .int a1)]) rfl ?_
    refine k_ldc C (pc := 7) (v := (-2000000098 : Int32)) tW_3_155 dL_load_7 ?_
    exact kx_iret C (pc := 9) hr dL_load_9 (Nat.le_of_ble_eq_true rfl) (Nat.le_of_ble_eq_true rfl) ⟨w1, h2, ⟨l0, rfl, hl⟩, (an1_1 h1).symm⟩
  · obtain ⟨r, rfl, h1, h2, h3⟩ := hv
    refine k_eq (pc := 5) (ws' := w1 ++ l0) (st' := [.int r]) rfl rfl rfl ?_
    exact kx_iret C (pc := 5) hr dL_load_5 (Nat.le_of_ble_eq_true rfl) (Nat.le_of_ble_eq_true rfl) ⟨w1, h3, ⟨l0, rfl, hl⟩, h2.trans (an1_0 h1).symm⟩

/-! state -/
theorem dL_state_0 : decode cL_state 0 = .ok (.aload_n 0, 1) := by decide +kernel
theorem dL_state_1 : decode cL_state 1 = .ok (.iload_n 1, 1) := by decide +kernel
theorem dL_state_2 : decode cL_state 2 = .ok (.invokevirtual 43, 3) := by decide +kernel
theorem dL_state_5 : decode cL_state 5 = .ok (.ireturn, 1) := by decide +kernel
theorem dL_state_6 : decode cL_state 6 = .ok (.astore_n 2, 1) := by decide +kernel
theorem dL_state_7 : decode cL_state 7 = .ok (.ldc 42, 2) := by decide +kernel
theorem dL_state_9 : decode cL_state 9 = .ok (.ireturn, 1) := by decide +kernel
theorem okL_state : okY yL_state 2 := ⟨by decide +kernel, by decide +kernel, by decide +kernel⟩
theorem tYL_state : Cond.codeWith yL_state cL_state 3 (some .int) [(0, 5, 6, 40)] ∈ W0 := W0_6 (i := 152) rfl rfl
set_option maxHeartbeats 1000000 in
theorem wl_state (l : Launch) (D : va_G) (cA : Nat → ClassId) (h ab ac ar : Nat → Nat) (hst : l.stackTraces = false) (a1 : Int32) {S : ivS} {z : Bool} {w ws : va_W} {mu : Mu} (hI : ivI cA h ab ac ar S z w) (hR : LR cA w ws mu) : ConY l D cA yL_state (wmW yL_state cL_state 3 (some .int) [(0, 5, 6, 40)]) { frames := 8, cells := 1, slots := 6, locals := 124 } ws [.ref (h 0), .int a1] 1 6 (PI (fun r w2 => ∃ w1, ivI cA h ab ac ar (s_state S a1).2.2.2 (s_state S a1).2.2.1 w1 ∧ LR cA w1 w2 mu ∧ r = an1 (s_state S a1) (-2000000098))) := by
  obtain ⟨l0, rfl, hl⟩ := hR
  obtain ⟨fs, t, hw⟩ := hI.hd
  refine ConY.of (by decide) (Nat.le_of_ble_eq_true rfl) ?_
  intro p e s m args below meth c C hE hT hr
  refine k_eq (ws' := w ++ l0) (lv' := [(0, .ref (h 0)), (1, .int a1)]) (st' := []) rfl rfl rfl ?_
  refine k_aload_n C 0 (pc := 0) dL_state_0 rfl rfl ?_
  refine k_iload_n C 1 (pc := 1) dL_state_1 rfl rfl ?_
  refine kx_onL C (pc := 2) (kx_runV C hE.1 (As := [.int a1]) (rest := []) (ci := 6) (q0 := 0) (xi_state l D cA h ab ac ar hst a1 hI) ⟨k_cwB C tW_6_156 tW_6_153 tW_1_1 okX6_state rfl rfl ⟨Nat.le_of_ble_eq_true rfl, Nat.le_of_ble_eq_true rfl⟩, C.w tW_6_154, C.w tW_6_155⟩ (by rw [hw]; rfl) rfl rfl rfl rfl (Nat.le_of_ble_eq_true rfl) dL_state_2 ⟨Nat.le_of_ble_eq_true rfl, Nat.le_of_ble_eq_true rfl⟩) (fun v w1 h_ => by obtain ⟨r, rfl, h1⟩ := h_; exact h1.2.2.ad.trans hI.ad.symm) (fun E w1 h_ => by rcases h_ with ⟨-, h1⟩ <;> exact h1.2.ad.trans hI.ad.symm) (fun E w1 hx => ?_) (fun v w1 hv => ?_)
  · obtain ⟨rfl, h1, h2⟩ := hx
    refine ky_catch C (pc := 2) (pre := []) (suf := []) (0, 5, 6, 40) hT rfl (fun _ h_ => absurd h_ List.not_mem_nil) (by decide) (by decide) tW_2_175 (va_Nw.use rfl (hE.1.2.2.2.1 "java/lang/IllegalArgumentException" (List.mem_of_getElem? (i := 0) rfl))) (fun q_ => ?_)
    refine k_astore_n C (pc := 6) dL_state_6 rfl (Nat.lt_of_lt_of_le (Nat.lt_succ_self _) (Nat.le_of_ble_eq_true rfl)) (lv' := [(2, .ref q_), (0, .ref (h 0)), (1, .int a1)]) rfl ?_
    refine k_ldc C (pc := 7) (v := (-2000000098 : Int32)) tW_3_155 dL_state_7 ?_
    exact kx_iret C (pc := 9) hr dL_state_9 (Nat.le_of_ble_eq_true rfl) (Nat.le_of_ble_eq_true rfl) ⟨w1, h2, ⟨l0, rfl, hl⟩, (an1_1 h1).symm⟩
  · obtain ⟨r, rfl, h1, h2, h3⟩ := hv
    refine k_eq (pc := 5) (ws' := w1 ++ l0) (st' := [.int r]) rfl rfl rfl ?_
    exact kx_iret C (pc := 5) hr dL_state_5 (Nat.le_of_ble_eq_true rfl) (Nat.le_of_ble_eq_true rfl) ⟨w1, h3, ⟨l0, rfl, hl⟩, h2.trans (an1_0 h1).symm⟩

/-! paragraph -/
theorem dL_paragraph_0 : decode cL_paragraph 0 = .ok (.aload_n 0, 1) := by decide +kernel
theorem dL_paragraph_1 : decode cL_paragraph 1 = .ok (.iload_n 1, 1) := by decide +kernel
theorem dL_paragraph_2 : decode cL_paragraph 2 = .ok (.iload_n 2, 1) := by decide +kernel
theorem dL_paragraph_3 : decode cL_paragraph 3 = .ok (.invokevirtual 46, 3) := by decide +kernel
theorem dL_paragraph_6 : decode cL_paragraph 6 = .ok (.ireturn, 1) := by decide +kernel
theorem dL_paragraph_7 : decode cL_paragraph 7 = .ok (.astore_n 3, 1) := by decide +kernel
theorem dL_paragraph_8 : decode cL_paragraph 8 = .ok (.ldc 52, 2) := by decide +kernel
theorem dL_paragraph_10 : decode cL_paragraph 10 = .ok (.ireturn, 1) := by decide +kernel
theorem dL_paragraph_11 : decode cL_paragraph 11 = .ok (.astore_n 3, 1) := by decide +kernel
theorem dL_paragraph_12 : decode cL_paragraph 12 = .ok (.ldc 42, 2) := by decide +kernel
theorem dL_paragraph_14 : decode cL_paragraph 14 = .ok (.ireturn, 1) := by decide +kernel
theorem okL_paragraph : okY yL_paragraph 3 := ⟨by decide +kernel, by decide +kernel, by decide +kernel⟩
theorem tYL_paragraph : Cond.codeWith yL_paragraph cL_paragraph 4 (some .int) [(0, 6, 7, 50), (0, 6, 11, 40)] ∈ W0 := W0_6 (i := 159) rfl rfl
set_option maxHeartbeats 1000000 in
theorem wl_paragraph (l : Launch) (D : va_G) (cA : Nat → ClassId) (h ab ac ar : Nat → Nat) (hst : l.stackTraces = false) (a1 : Int32) (a2 : Int32) {S : ivS} {z : Bool} {w ws : va_W} {mu : Mu} (hI : ivI cA h ab ac ar S z w) (hR : LR cA w ws mu) : ConY l D cA yL_paragraph (wmW yL_paragraph cL_paragraph 4 (some .int) [(0, 6, 7, 50), (0, 6, 11, 40)]) { frames := 8, cells := 2, slots := 12, locals := 180 } ws [.ref (h 0), .int a1, .int a2] 2 12 (PI (fun r w2 => ∃ w1, ivI cA h ab ac ar (s_paragraph S a1 a2).2.2.2 (s_paragraph S a1 a2).2.2.1 w1 ∧ LR cA w1 w2 mu ∧ r = an2 (s_paragraph S a1 a2) (-2000000097) (-2000000098))) := by
  obtain ⟨l0, rfl, hl⟩ := hR
  obtain ⟨fs, t, hw⟩ := hI.hd
  refine ConY.of (by decide) (Nat.le_of_ble_eq_true rfl) ?_
  intro p e s m args below meth c C hE hT hr
  refine k_eq (ws' := w ++ l0) (lv' := [(0, .ref (h 0)), (1, .int a1), (2, .int a2)]) (st' := []) rfl rfl rfl ?_
  refine k_aload_n C 0 (pc := 0) dL_paragraph_0 rfl rfl ?_
  refine k_iload_n C 1 (pc := 1) dL_paragraph_1 rfl rfl ?_
  refine k_iload_n C 2 (pc := 2) dL_paragraph_2 rfl rfl ?_
  refine kx_onL C (pc := 3) (kx_runV C hE.1 (As := [.int a1, .int a2]) (rest := []) (ci := 6) (q0 := 0) (xi_paragraph l D cA h ab ac ar hst a1 a2 hI) ⟨k_cwB C tW_6_163 tW_6_160 tW_1_1 okX6_paragraph rfl rfl ⟨Nat.le_of_ble_eq_true rfl, Nat.le_of_ble_eq_true rfl⟩, C.w tW_6_161, C.w tW_6_162⟩ (by rw [hw]; rfl) rfl rfl rfl rfl (Nat.le_of_ble_eq_true rfl) dL_paragraph_3 ⟨Nat.le_of_ble_eq_true rfl, Nat.le_of_ble_eq_true rfl⟩) (fun v w1 h_ => by obtain ⟨r, rfl, h1⟩ := h_; exact h1.2.2.ad.trans hI.ad.symm) (fun E w1 h_ => by rcases h_ with ⟨-, h1⟩ | ⟨-, h1⟩ <;> exact h1.2.ad.trans hI.ad.symm) (fun E w1 hx => ?_) (fun v w1 hv => ?_)
  · rcases hx with ⟨rfl, h1, h2⟩ | ⟨rfl, h1, h2⟩
    · refine ky_catch C (pc := 3) (pre := []) (suf := [(0, 6, 11, 40)]) (0, 6, 7, 50) hT rfl (fun _ h_ => absurd h_ List.not_mem_nil) (by decide) (by decide) tW_3_159 (va_Nw.use rfl (hE.1.2.2.2.1 "java/lang/IndexOutOfBoundsException" (List.mem_of_getElem? (i := 1) rfl))) (fun q_ => ?_)
      refine k_astore_n C (pc := 7) dL_paragraph_7 rfl (Nat.lt_of_lt_of_le (Nat.lt_succ_self _) (Nat.le_of_ble_eq_true rfl)) (lv' := [(3, .ref q_), (0, .ref (h 0)), (1, .int a1), (2, .int a2)]) rfl ?_
      refine k_ldc C (pc := 8) (v := (-2000000097 : Int32)) tW_3_203 dL_paragraph_8 ?_
      exact kx_iret C (pc := 10) hr dL_paragraph_10 (Nat.le_of_ble_eq_true rfl) (Nat.le_of_ble_eq_true rfl) ⟨w1, h2, ⟨l0, rfl, hl⟩, (an2_1 h1).symm⟩
    · refine ky_catch C (pc := 3) (pre := [(0, 6, 7, 50)]) (suf := []) (0, 6, 11, 40) hT rfl (List.forall_mem_cons.mpr ⟨⟨by decide, "java/lang/IndexOutOfBoundsException", tW_3_159, hE.2 ("java/lang/IllegalArgumentException", "java/lang/IndexOutOfBoundsException") (List.mem_of_getElem? (i := 0) rfl)⟩, fun _ h_ => absurd h_ List.not_mem_nil⟩) (by decide) (by decide) tW_2_175 (va_Nw.use rfl (hE.1.2.2.2.1 "java/lang/IllegalArgumentException" (List.mem_of_getElem? (i := 0) rfl))) (fun q_ => ?_)
      refine k_astore_n C (pc := 11) dL_paragraph_11 rfl (Nat.lt_of_lt_of_le (Nat.lt_succ_self _) (Nat.le_of_ble_eq_true rfl)) (lv' := [(3, .ref q_), (0, .ref (h 0)), (1, .int a1), (2, .int a2)]) rfl ?_
      refine k_ldc C (pc := 12) (v := (-2000000098 : Int32)) tW_3_155 dL_paragraph_12 ?_
      exact kx_iret C (pc := 14) hr dL_paragraph_14 (Nat.le_of_ble_eq_true rfl) (Nat.le_of_ble_eq_true rfl) ⟨w1, h2, ⟨l0, rfl, hl⟩, (an2_2 h1).symm⟩
  · obtain ⟨r, rfl, h1, h2, h3⟩ := hv
    refine k_eq (pc := 6) (ws' := w1 ++ l0) (st' := [.int r]) rfl rfl rfl ?_
    exact kx_iret C (pc := 6) hr dL_paragraph_6 (Nat.le_of_ble_eq_true rfl) (Nat.le_of_ble_eq_true rfl) ⟨w1, h3, ⟨l0, rfl, hl⟩, h2.trans (an2_0 h1).symm⟩

/-! word -/
theorem dL_word_0 : decode cL_word 0 = .ok (.aload_n 0, 1) := by decide +kernel
theorem dL_word_1 : decode cL_word 1 = .ok (.iload_n 1, 1) := by decide +kernel
theorem dL_word_2 : decode cL_word 2 = .ok (.iload_n 2, 1) := by decide +kernel
theorem dL_word_3 : decode cL_word 3 = .ok (.invokevirtual 53, 3) := by decide +kernel
theorem dL_word_6 : decode cL_word 6 = .ok (.ireturn, 1) := by decide +kernel
theorem dL_word_7 : decode cL_word 7 = .ok (.astore_n 3, 1) := by decide +kernel
theorem dL_word_8 : decode cL_word 8 = .ok (.ldc 52, 2) := by decide +kernel
theorem dL_word_10 : decode cL_word 10 = .ok (.ireturn, 1) := by decide +kernel
theorem dL_word_11 : decode cL_word 11 = .ok (.astore_n 3, 1) := by decide +kernel
theorem dL_word_12 : decode cL_word 12 = .ok (.ldc 58, 2) := by decide +kernel
theorem dL_word_14 : decode cL_word 14 = .ok (.ireturn, 1) := by decide +kernel
theorem okL_word : okY yL_word 3 := ⟨by decide +kernel, by decide +kernel, by decide +kernel⟩
theorem tYL_word : Cond.codeWith yL_word cL_word 4 (some .int) [(0, 6, 7, 50), (0, 6, 11, 56)] ∈ W0 := W0_3 (i := 158) rfl rfl
set_option maxHeartbeats 1000000 in
theorem wl_word (l : Launch) (D : va_G) (cA : Nat → ClassId) (h ab ac ar : Nat → Nat) (hst : l.stackTraces = false) (a1 : Int32) (a2 : Int32) {S : ivS} {z : Bool} {w ws : va_W} {mu : Mu} (hI : ivI cA h ab ac ar S z w) (hR : LR cA w ws mu) : ConY l D cA yL_word (wmW yL_word cL_word 4 (some .int) [(0, 6, 7, 50), (0, 6, 11, 56)]) { frames := 8, cells := 2, slots := 12, locals := 125 } ws [.ref (h 0), .int a1, .int a2] 2 12 (PI (fun r w2 => ∃ w1, ivI cA h ab ac ar (s_word S a1 a2).2.2.2 (s_word S a1 a2).2.2.1 w1 ∧ LR cA w1 w2 mu ∧ r = an2 (s_word S a1 a2) (-2000000097) (-2000000100))) := by
  obtain ⟨l0, rfl, hl⟩ := hR
  obtain ⟨fs, t, hw⟩ := hI.hd
  refine ConY.of (by decide) (Nat.le_of_ble_eq_true rfl) ?_
  intro p e s m args below meth c C hE hT hr
  refine k_eq (ws' := w ++ l0) (lv' := [(0, .ref (h 0)), (1, .int a1), (2, .int a2)]) (st' := []) rfl rfl rfl ?_
  refine k_aload_n C 0 (pc := 0) dL_word_0 rfl rfl ?_
  refine k_iload_n C 1 (pc := 1) dL_word_1 rfl rfl ?_
  refine k_iload_n C 2 (pc := 2) dL_word_2 rfl rfl ?_
  refine kx_onL C (pc := 3) (kx_runV C hE.1 (As := [.int a1, .int a2]) (rest := []) (ci := 6) (q0 := 0) (xi_word l D cA h ab ac ar hst a1 a2 hI) ⟨k_cwB C tW_3_164 tW_3_161 tW_1_1 okX6_word rfl rfl ⟨Nat.le_of_ble_eq_true rfl, Nat.le_of_ble_eq_true rfl⟩, C.w tW_3_162, C.w tW_3_163⟩ (by rw [hw]; rfl) rfl rfl rfl rfl (Nat.le_of_ble_eq_true rfl) dL_word_3 ⟨Nat.le_of_ble_eq_true rfl, Nat.le_of_ble_eq_true rfl⟩) (fun v w1 h_ => by obtain ⟨r, rfl, h1⟩ := h_; exact h1.2.2.ad.trans hI.ad.symm) (fun E w1 h_ => by rcases h_ with ⟨-, h1⟩ | ⟨-, h1⟩ <;> exact h1.2.ad.trans hI.ad.symm) (fun E w1 hx => ?_) (fun v w1 hv => ?_)
  · rcases hx with ⟨rfl, h1, h2⟩ | ⟨rfl, h1, h2⟩
    · refine ky_catch C (pc := 3) (pre := []) (suf := [(0, 6, 11, 56)]) (0, 6, 7, 50) hT rfl (fun _ h_ => absurd h_ List.not_mem_nil) (by decide) (by decide) tW_3_159 (va_Nw.use rfl (hE.1.2.2.2.1 "java/lang/IndexOutOfBoundsException" (List.mem_of_getElem? (i := 1) rfl))) (fun q_ => ?_)
      refine k_astore_n C (pc := 7) dL_word_7 rfl (Nat.lt_of_lt_of_le (Nat.lt_succ_self _) (Nat.le_of_ble_eq_true rfl)) (lv' := [(3, .ref q_), (0, .ref (h 0)), (1, .int a1), (2, .int a2)]) rfl ?_
      refine k_ldc C (pc := 8) (v := (-2000000097 : Int32)) tW_3_203 dL_word_8 ?_
      exact kx_iret C (pc := 10) hr dL_word_10 (Nat.le_of_ble_eq_true rfl) (Nat.le_of_ble_eq_true rfl) ⟨w1, h2, ⟨l0, rfl, hl⟩, (an2_1 h1).symm⟩
    · refine ky_catch C (pc := 3) (pre := [(0, 6, 7, 50)]) (suf := []) (0, 6, 11, 56) hT rfl (List.forall_mem_cons.mpr ⟨⟨by decide, "java/lang/IndexOutOfBoundsException", tW_3_159, hE.2 ("java/util/NoSuchElementException", "java/lang/IndexOutOfBoundsException") (List.mem_of_getElem? (i := 1) rfl)⟩, fun _ h_ => absurd h_ List.not_mem_nil⟩) (by decide) (by decide) tW_3_160 (va_Nw.use rfl (hE.1.2.2.2.1 "java/util/NoSuchElementException" (List.mem_of_getElem? (i := 2) rfl))) (fun q_ => ?_)
      refine k_astore_n C (pc := 11) dL_word_11 rfl (Nat.lt_of_lt_of_le (Nat.lt_succ_self _) (Nat.le_of_ble_eq_true rfl)) (lv' := [(3, .ref q_), (0, .ref (h 0)), (1, .int a1), (2, .int a2)]) rfl ?_
      refine k_ldc C (pc := 12) (v := (-2000000100 : Int32)) tW_3_204 dL_word_12 ?_
      exact kx_iret C (pc := 14) hr dL_word_14 (Nat.le_of_ble_eq_true rfl) (Nat.le_of_ble_eq_true rfl) ⟨w1, h2, ⟨l0, rfl, hl⟩, (an2_2 h1).symm⟩
  · obtain ⟨r, rfl, h1, h2, h3⟩ := hv
    refine k_eq (pc := 6) (ws' := w1 ++ l0) (st' := [.int r]) rfl rfl rfl ?_
    exact kx_iret C (pc := 6) hr dL_word_6 (Nat.le_of_ble_eq_true rfl) (Nat.le_of_ble_eq_true rfl) ⟨w1, h3, ⟨l0, rfl, hl⟩, h2.trans (an2_0 h1).symm⟩

/-! lineLength -/
theorem dL_lineLength_0 : decode cL_lineLength 0 = .ok (.aload_n 0, 1) := by decide +kernel
theorem dL_lineLength_1 : decode cL_lineLength 1 = .ok (.iload_n 1, 1) := by decide +kernel
theorem dL_lineLength_2 : decode cL_lineLength 2 = .ok (.iload_n 2, 1) := by decide +kernel
theorem dL_lineLength_3 : decode cL_lineLength 3 = .ok (.iload_n 3, 1) := by decide +kernel
theorem dL_lineLength_4 : decode cL_lineLength 4 = .ok (.invokevirtual 59, 3) := by decide +kernel
theorem dL_lineLength_7 : decode cL_lineLength 7 = .ok (.ireturn, 1) := by decide +kernel
theorem dL_lineLength_8 : decode cL_lineLength 8 = .ok (.astore 4, 2) := by decide +kernel
theorem dL_lineLength_10 : decode cL_lineLength 10 = .ok (.ldc 52, 2) := by decide +kernel
theorem dL_lineLength_12 : decode cL_lineLength 12 = .ok (.ireturn, 1) := by decide +kernel
theorem dL_lineLength_13 : decode cL_lineLength 13 = .ok (.astore 4, 2) := by decide +kernel
theorem dL_lineLength_15 : decode cL_lineLength 15 = .ok (.ldc 42, 2) := by decide +kernel
theorem dL_lineLength_17 : decode cL_lineLength 17 = .ok (.ireturn, 1) := by decide +kernel
theorem dL_lineLength_18 : decode cL_lineLength 18 = .ok (.astore 4, 2) := by decide +kernel
theorem dL_lineLength_20 : decode cL_lineLength 20 = .ok (.ldc 58, 2) := by decide +kernel
theorem dL_lineLength_22 : decode cL_lineLength 22 = .ok (.ireturn, 1) := by decide +kernel
theorem okL_lineLength : okY yL_lineLength 4 := ⟨by decide +kernel, by decide +kernel, by decide +kernel⟩
theorem tYL_lineLength : Cond.codeWith yL_lineLength cL_lineLength 5 (some .int) [(0, 7, 8, 50), (0, 7, 13, 40), (0, 7, 18, 56)] ∈ W0 := W0_3 (i := 207) rfl rfl
set_option maxHeartbeats 1000000 in
theorem wl_lineLength (l : Launch) (D : va_G) (cA : Nat → ClassId) (h ab ac ar : Nat → Nat) (hst : l.stackTraces = false) (a1 : Int32) (a2 : Int32) (a3 : Int32) {S : ivS} {z : Bool} {w ws : va_W} {mu : Mu} (hI : ivI cA h ab ac ar S z w) (hR : LR cA w ws mu) : ConY l D cA yL_lineLength (wmW yL_lineLength cL_lineLength 5 (some .int) [(0, 7, 8, 50), (0, 7, 13, 40), (0, 7, 18, 56)]) { frames := 8, cells := 2, slots := 12, locals := 126 } ws [.ref (h 0), .int a1, .int a2, .int a3] 2 12 (PI (fun r w2 => ∃ w1, ivI cA h ab ac ar (s_lineLength S a1 a2 a3).2.2.2 (s_lineLength S a1 a2 a3).2.2.1 w1 ∧ LR cA w1 w2 mu ∧ r = an3 (s_lineLength S a1 a2 a3) (-2000000097) (-2000000098) (-2000000100))) := by
  obtain ⟨l0, rfl, hl⟩ := hR
  obtain ⟨fs, t, hw⟩ := hI.hd
  refine ConY.of (by decide) (Nat.le_of_ble_eq_true rfl) ?_
  intro p e s m args below meth c C hE hT hr
  refine k_eq (ws' := w ++ l0) (lv' := [(0, .ref (h 0)), (1, .int a1), (2, .int a2), (3, .int a3)]) (st' := []) rfl rfl rfl ?_
  refine k_aload_n C 0 (pc := 0) dL_lineLength_0 rfl rfl ?_
  refine k_iload_n C 1 (pc := 1) dL_lineLength_1 rfl rfl ?_
  refine k_iload_n C 2 (pc := 2) dL_lineLength_2 rfl rfl ?_
  refine k_iload_n C 3 (pc := 3) dL_lineLength_3 rfl rfl ?_
  refine kx_onL C (pc := 4) (kx_runV C hE.1 (As := [.int a1, .int a2, .int a3]) (rest := []) (ci := 6) (q0 := 0) (xi_lineLength l D cA h ab ac ar hst a1 a2 a3 hI) ⟨k_cwB C tW_3_211 tW_3_208 tW_1_1 okX6_lineLength rfl rfl ⟨Nat.le_of_ble_eq_true rfl, Nat.le_of_ble_eq_true rfl⟩, C.w tW_3_209, C.w tW_3_210⟩ (by rw [hw]; rfl) rfl rfl rfl rfl (Nat.le_of_ble_eq_true rfl) dL_lineLength_4 ⟨Nat.le_of_ble_eq_true rfl, Nat.le_of_ble_eq_true rfl⟩) (fun v w1 h_ => by obtain ⟨r, rfl, h1⟩ := h_; exact h1.2.2.ad.trans hI.ad.symm) (fun E w1 h_ => by rcases h_ with ⟨-, h1⟩ | ⟨-, h1⟩ | ⟨-, h1⟩ <;> exact h1.2.ad.trans hI.ad.symm) (fun E w1 hx => ?_) (fun v w1 hv => ?_)
  · rcases hx with ⟨rfl, h1, h2⟩ | ⟨rfl, h1, h2⟩ | ⟨rfl, h1, h2⟩
    · refine ky_catch C (pc := 4) (pre := []) (suf := [(0, 7, 13, 40), (0, 7, 18, 56)]) (0, 7, 8, 50) hT rfl (fun _ h_ => absurd h_ List.not_mem_nil) (by decide) (by decide) tW_3_159 (va_Nw.use rfl (hE.1.2.2.2.1 "java/lang/IndexOutOfBoundsException" (List.mem_of_getElem? (i := 1) rfl))) (fun q_ => ?_)
      refine k_astore C (pc := 8) dL_lineLength_8 (Nat.lt_of_lt_of_le (Nat.lt_succ_self _) (Nat.le_of_ble_eq_true rfl)) (lv' := [(4, .ref q_), (0, .ref (h 0)), (1, .int a1), (2, .int a2), (3, .int a3)]) rfl ?_
      refine k_ldc C (pc := 10) (v := (-2000000097 : Int32)) tW_3_203 dL_lineLength_10 ?_
      exact kx_iret C (pc := 12) hr dL_lineLength_12 (Nat.le_of_ble_eq_true rfl) (Nat.le_of_ble_eq_true rfl) ⟨w1, h2, ⟨l0, rfl, hl⟩, (an3_1 h1).symm⟩
    · refine ky_catch C (pc := 4) (pre := [(0, 7, 8, 50)]) (suf := [(0, 7, 18, 56)]) (0, 7, 13, 40) hT rfl (List.forall_mem_cons.mpr ⟨⟨by decide, "java/lang/IndexOutOfBoundsException", tW_3_159, hE.2 ("java/lang/IllegalArgumentException", "java/lang/IndexOutOfBoundsException") (List.mem_of_getElem? (i := 0) rfl)⟩, fun _ h_ => absurd h_ List.not_mem_nil⟩) (by decide) (by decide) tW_2_175 (va_Nw.use rfl (hE.1.2.2.2.1 "java/lang/IllegalArgumentException" (List.mem_of_getElem? (i := 0) rfl))) (fun q_ => ?_)
      refine k_astore C (pc := 13) dL_lineLength_13 (Nat.lt_of_lt_of_le (Nat.lt_succ_self _) (Nat.le_of_ble_eq_true rfl)) (lv' := [(4, .ref q_), (0, .ref (h 0)), (1, .int a1), (2, .int a2), (3, .int a3)]) rfl ?_
      refine k_ldc C (pc := 15) (v := (-2000000098 : Int32)) tW_3_155 dL_lineLength_15 ?_
      exact kx_iret C (pc := 17) hr dL_lineLength_17 (Nat.le_of_ble_eq_true rfl) (Nat.le_of_ble_eq_true rfl) ⟨w1, h2, ⟨l0, rfl, hl⟩, (an3_2 h1).symm⟩
    · refine ky_catch C (pc := 4) (pre := [(0, 7, 8, 50), (0, 7, 13, 40)]) (suf := []) (0, 7, 18, 56) hT rfl (List.forall_mem_cons.mpr ⟨⟨by decide, "java/lang/IndexOutOfBoundsException", tW_3_159, hE.2 ("java/util/NoSuchElementException", "java/lang/IndexOutOfBoundsException") (List.mem_of_getElem? (i := 1) rfl)⟩, List.forall_mem_cons.mpr ⟨⟨by decide, "java/lang/IllegalArgumentException", tW_2_175, hE.2 ("java/util/NoSuchElementException", "java/lang/IllegalArgumentException") (List.mem_of_getElem? (i := 2) rfl)⟩, fun _ h_ => absurd h_ List.not_mem_nil⟩⟩) (by decide) (by decide) tW_3_160 (va_Nw.use rfl (hE.1.2.2.2.1 "java/util/NoSuchElementException" (List.mem_of_getElem? (i := 2) rfl))) (fun q_ => ?_)
      refine k_astore C (pc := 18) dL_lineLength_18 (Nat.lt_of_lt_of_le (Nat.lt_succ_self _) (Nat.le_of_ble_eq_true rfl)) (lv' := [(4, .ref q_), (0, .ref (h 0)), (1, .int a1), (2, .int a2), (3, .int a3)]) rfl ?_
      refine k_ldc C (pc := 20) (v := (-2000000100 : Int32)) tW_3_204 dL_lineLength_20 ?_
      exact kx_iret C (pc := 22) hr dL_lineLength_22 (Nat.le_of_ble_eq_true rfl) (Nat.le_of_ble_eq_true rfl) ⟨w1, h2, ⟨l0, rfl, hl⟩, (an3_3 h1).symm⟩
  · obtain ⟨r, rfl, h1, h2, h3⟩ := hv
    refine k_eq (pc := 7) (ws' := w1 ++ l0) (st' := [.int r]) rfl rfl rfl ?_
    exact kx_iret C (pc := 7) hr dL_lineLength_7 (Nat.le_of_ble_eq_true rfl) (Nat.le_of_ble_eq_true rfl) ⟨w1, h3, ⟨l0, rfl, hl⟩, h2.trans (an3_0 h1).symm⟩

/-! plan -/
theorem dL_plan_0 : decode cL_plan 0 = .ok (.aload_n 0, 1) := by decide +kernel
theorem dL_plan_1 : decode cL_plan 1 = .ok (.iload_n 1, 1) := by decide +kernel
theorem dL_plan_2 : decode cL_plan 2 = .ok (.iload_n 2, 1) := by decide +kernel
theorem dL_plan_3 : decode cL_plan 3 = .ok (.invokevirtual 63, 3) := by decide +kernel
theorem dL_plan_6 : decode cL_plan 6 = .ok (.ireturn, 1) := by decide +kernel
theorem dL_plan_7 : decode cL_plan 7 = .ok (.astore_n 3, 1) := by decide +kernel
theorem dL_plan_8 : decode cL_plan 8 = .ok (.ldc 42, 2) := by decide +kernel
theorem dL_plan_10 : decode cL_plan 10 = .ok (.ireturn, 1) := by decide +kernel
theorem okL_plan : okY yL_plan 3 := ⟨by decide +kernel, by decide +kernel, by decide +kernel⟩
theorem tYL_plan : Cond.codeWith yL_plan cL_plan 4 (some .int) [(0, 6, 7, 40)] ∈ W0 := W0_3 (i := 225) rfl rfl
set_option maxHeartbeats 1000000 in
theorem wl_plan (l : Launch) (D : va_G) (cA : Nat → ClassId) (h ab ac ar : Nat → Nat) (hst : l.stackTraces = false) (b1 : Bool) (a2 : Int32) {S : ivS} {z : Bool} {w ws : va_W} {mu : Mu} (hI : ivI cA h ab ac ar S z w) (hR : LR cA w ws mu) : ConY l D cA yL_plan (wmW yL_plan cL_plan 4 (some .int) [(0, 6, 7, 40)]) { frames := 8, cells := 1, slots := 6, locals := 180 } ws [.ref (h 0), .int (bI b1), .int a2] 1 6 (PI (fun r w2 => ∃ w1, ivI cA h ab ac ar (s_plan S b1 a2).2.2.2 (s_plan S b1 a2).2.2.1 w1 ∧ LR cA w1 w2 mu ∧ r = an1 (s_plan S b1 a2) (-2000000098))) := by
  obtain ⟨l0, rfl, hl⟩ := hR
  obtain ⟨fs, t, hw⟩ := hI.hd
  refine ConY.of (by decide) (Nat.le_of_ble_eq_true rfl) ?_
  intro p e s m args below meth c C hE hT hr
  refine k_eq (ws' := w ++ l0) (lv' := [(0, .ref (h 0)), (1, .int (bI b1)), (2, .int a2)]) (st' := []) rfl rfl rfl ?_
  refine k_aload_n C 0 (pc := 0) dL_plan_0 rfl rfl ?_
  refine k_iload_n C 1 (pc := 1) dL_plan_1 rfl rfl ?_
  refine k_iload_n C 2 (pc := 2) dL_plan_2 rfl rfl ?_
  refine kx_onL C (pc := 3) (kx_runV C hE.1 (As := [.int (bI b1), .int a2]) (rest := []) (ci := 6) (q0 := 0) (xi_plan l D cA h ab ac ar hst b1 a2 hI) ⟨k_cwB C tW_3_229 tW_3_226 tW_1_1 okX6_plan rfl rfl ⟨Nat.le_of_ble_eq_true rfl, Nat.le_of_ble_eq_true rfl⟩, C.w tW_3_227, C.w tW_3_228⟩ (by rw [hw]; rfl) rfl rfl rfl rfl (Nat.le_of_ble_eq_true rfl) dL_plan_3 ⟨Nat.le_of_ble_eq_true rfl, Nat.le_of_ble_eq_true rfl⟩) (fun v w1 h_ => by obtain ⟨r, rfl, h1⟩ := h_; exact h1.2.2.ad.trans hI.ad.symm) (fun E w1 h_ => by rcases h_ with ⟨-, h1⟩ <;> exact h1.2.ad.trans hI.ad.symm) (fun E w1 hx => ?_) (fun v w1 hv => ?_)
  · obtain ⟨rfl, h1, h2⟩ := hx
    refine ky_catch C (pc := 3) (pre := []) (suf := []) (0, 6, 7, 40) hT rfl (fun _ h_ => absurd h_ List.not_mem_nil) (by decide) (by decide) tW_2_175 (va_Nw.use rfl (hE.1.2.2.2.1 "java/lang/IllegalArgumentException" (List.mem_of_getElem? (i := 0) rfl))) (fun q_ => ?_)
    refine k_astore_n C (pc := 7) dL_plan_7 rfl (Nat.lt_of_lt_of_le (Nat.lt_succ_self _) (Nat.le_of_ble_eq_true rfl)) (lv' := [(3, .ref q_), (0, .ref (h 0)), (1, .int (bI b1)), (2, .int a2)]) rfl ?_
    refine k_ldc C (pc := 8) (v := (-2000000098 : Int32)) tW_3_155 dL_plan_8 ?_
    exact kx_iret C (pc := 10) hr dL_plan_10 (Nat.le_of_ble_eq_true rfl) (Nat.le_of_ble_eq_true rfl) ⟨w1, h2, ⟨l0, rfl, hl⟩, (an1_1 h1).symm⟩
  · obtain ⟨r, rfl, h1, h2, h3⟩ := hv
    refine k_eq (pc := 6) (ws' := w1 ++ l0) (st' := [.int r]) rfl rfl rfl ?_
    exact kx_iret C (pc := 6) hr dL_plan_6 (Nat.le_of_ble_eq_true rfl) (Nat.le_of_ble_eq_true rfl) ⟨w1, h3, ⟨l0, rfl, hl⟩, h2.trans (an1_0 h1).symm⟩

/-! page -/
theorem dL_page_0 : decode cL_page 0 = .ok (.aload_n 0, 1) := by decide +kernel
theorem dL_page_1 : decode cL_page 1 = .ok (.iload_n 1, 1) := by decide +kernel
theorem dL_page_2 : decode cL_page 2 = .ok (.iload_n 2, 1) := by decide +kernel
theorem dL_page_3 : decode cL_page 3 = .ok (.iload_n 3, 1) := by decide +kernel
theorem dL_page_4 : decode cL_page 4 = .ok (.invokevirtual 67, 3) := by decide +kernel
theorem dL_page_7 : decode cL_page 7 = .ok (.ireturn, 1) := by decide +kernel
theorem dL_page_8 : decode cL_page 8 = .ok (.astore 4, 2) := by decide +kernel
theorem dL_page_10 : decode cL_page 10 = .ok (.ldc 52, 2) := by decide +kernel
theorem dL_page_12 : decode cL_page 12 = .ok (.ireturn, 1) := by decide +kernel
theorem dL_page_13 : decode cL_page 13 = .ok (.astore 4, 2) := by decide +kernel
theorem dL_page_15 : decode cL_page 15 = .ok (.ldc 42, 2) := by decide +kernel
theorem dL_page_17 : decode cL_page 17 = .ok (.ireturn, 1) := by decide +kernel
theorem okL_page : okY yL_page 4 := ⟨by decide +kernel, by decide +kernel, by decide +kernel⟩
theorem tYL_page : Cond.codeWith yL_page cL_page 5 (some .int) [(0, 7, 8, 50), (0, 7, 13, 40)] ∈ W0 := W0_4 (i := 141) rfl rfl
set_option maxHeartbeats 1000000 in
theorem wl_page (l : Launch) (D : va_G) (cA : Nat → ClassId) (h ab ac ar : Nat → Nat) (hst : l.stackTraces = false) (b1 : Bool) (a2 : Int32) (a3 : Int32) {S : ivS} {z : Bool} {w ws : va_W} {mu : Mu} (hI : ivI cA h ab ac ar S z w) (hR : LR cA w ws mu) : ConY l D cA yL_page (wmW yL_page cL_page 5 (some .int) [(0, 7, 8, 50), (0, 7, 13, 40)]) { frames := 8, cells := 2, slots := 12, locals := 182 } ws [.ref (h 0), .int (bI b1), .int a2, .int a3] 2 12 (PI (fun r w2 => ∃ w1, ivI cA h ab ac ar (s_page S b1 a2 a3).2.2.2 (s_page S b1 a2 a3).2.2.1 w1 ∧ LR cA w1 w2 mu ∧ r = an2 (s_page S b1 a2 a3) (-2000000097) (-2000000098))) := by
  obtain ⟨l0, rfl, hl⟩ := hR
  obtain ⟨fs, t, hw⟩ := hI.hd
  refine ConY.of (by decide) (Nat.le_of_ble_eq_true rfl) ?_
  intro p e s m args below meth c C hE hT hr
  refine k_eq (ws' := w ++ l0) (lv' := [(0, .ref (h 0)), (1, .int (bI b1)), (2, .int a2), (3, .int a3)]) (st' := []) rfl rfl rfl ?_
  refine k_aload_n C 0 (pc := 0) dL_page_0 rfl rfl ?_
  refine k_iload_n C 1 (pc := 1) dL_page_1 rfl rfl ?_
  refine k_iload_n C 2 (pc := 2) dL_page_2 rfl rfl ?_
  refine k_iload_n C 3 (pc := 3) dL_page_3 rfl rfl ?_
  refine kx_onL C (pc := 4) (kx_runV C hE.1 (As := [.int (bI b1), .int a2, .int a3]) (rest := []) (ci := 6) (q0 := 0) (xi_page l D cA h ab ac ar hst b1 a2 a3 hI) ⟨k_cwB C tW_4_145 tW_4_142 tW_1_1 okX6_page rfl rfl ⟨Nat.le_of_ble_eq_true rfl, Nat.le_of_ble_eq_true rfl⟩, C.w tW_4_143, C.w tW_4_144⟩ (by rw [hw]; rfl) rfl rfl rfl rfl (Nat.le_of_ble_eq_true rfl) dL_page_4 ⟨Nat.le_of_ble_eq_true rfl, Nat.le_of_ble_eq_true rfl⟩) (fun v w1 h_ => by obtain ⟨r, rfl, h1⟩ := h_; exact h1.2.2.ad.trans hI.ad.symm) (fun E w1 h_ => by rcases h_ with ⟨-, h1⟩ | ⟨-, h1⟩ <;> exact h1.2.ad.trans hI.ad.symm) (fun E w1 hx => ?_) (fun v w1 hv => ?_)
  · rcases hx with ⟨rfl, h1, h2⟩ | ⟨rfl, h1, h2⟩
    · refine ky_catch C (pc := 4) (pre := []) (suf := [(0, 7, 13, 40)]) (0, 7, 8, 50) hT rfl (fun _ h_ => absurd h_ List.not_mem_nil) (by decide) (by decide) tW_3_159 (va_Nw.use rfl (hE.1.2.2.2.1 "java/lang/IndexOutOfBoundsException" (List.mem_of_getElem? (i := 1) rfl))) (fun q_ => ?_)
      refine k_astore C (pc := 8) dL_page_8 (Nat.lt_of_lt_of_le (Nat.lt_succ_self _) (Nat.le_of_ble_eq_true rfl)) (lv' := [(4, .ref q_), (0, .ref (h 0)), (1, .int (bI b1)), (2, .int a2), (3, .int a3)]) rfl ?_
      refine k_ldc C (pc := 10) (v := (-2000000097 : Int32)) tW_3_203 dL_page_10 ?_
      exact kx_iret C (pc := 12) hr dL_page_12 (Nat.le_of_ble_eq_true rfl) (Nat.le_of_ble_eq_true rfl) ⟨w1, h2, ⟨l0, rfl, hl⟩, (an2_1 h1).symm⟩
    · refine ky_catch C (pc := 4) (pre := [(0, 7, 8, 50)]) (suf := []) (0, 7, 13, 40) hT rfl (List.forall_mem_cons.mpr ⟨⟨by decide, "java/lang/IndexOutOfBoundsException", tW_3_159, hE.2 ("java/lang/IllegalArgumentException", "java/lang/IndexOutOfBoundsException") (List.mem_of_getElem? (i := 0) rfl)⟩, fun _ h_ => absurd h_ List.not_mem_nil⟩) (by decide) (by decide) tW_2_175 (va_Nw.use rfl (hE.1.2.2.2.1 "java/lang/IllegalArgumentException" (List.mem_of_getElem? (i := 0) rfl))) (fun q_ => ?_)
      refine k_astore C (pc := 13) dL_page_13 (Nat.lt_of_lt_of_le (Nat.lt_succ_self _) (Nat.le_of_ble_eq_true rfl)) (lv' := [(4, .ref q_), (0, .ref (h 0)), (1, .int (bI b1)), (2, .int a2), (3, .int a3)]) rfl ?_
      refine k_ldc C (pc := 15) (v := (-2000000098 : Int32)) tW_3_155 dL_page_15 ?_
      exact kx_iret C (pc := 17) hr dL_page_17 (Nat.le_of_ble_eq_true rfl) (Nat.le_of_ble_eq_true rfl) ⟨w1, h2, ⟨l0, rfl, hl⟩, (an2_2 h1).symm⟩
  · obtain ⟨r, rfl, h1, h2, h3⟩ := hv
    refine k_eq (pc := 7) (ws' := w1 ++ l0) (st' := [.int r]) rfl rfl rfl ?_
    exact kx_iret C (pc := 7) hr dL_page_7 (Nat.le_of_ble_eq_true rfl) (Nat.le_of_ble_eq_true rfl) ⟨w1, h3, ⟨l0, rfl, hl⟩, h2.trans (an2_0 h1).symm⟩

/-! pageOf -/
theorem dL_pageOf_0 : decode cL_pageOf 0 = .ok (.aload_n 0, 1) := by decide +kernel
theorem dL_pageOf_1 : decode cL_pageOf 1 = .ok (.iload_n 1, 1) := by decide +kernel
theorem dL_pageOf_2 : decode cL_pageOf 2 = .ok (.iload_n 2, 1) := by decide +kernel
theorem dL_pageOf_3 : decode cL_pageOf 3 = .ok (.iload_n 3, 1) := by decide +kernel
theorem dL_pageOf_4 : decode cL_pageOf 4 = .ok (.invokevirtual 71, 3) := by decide +kernel
theorem dL_pageOf_7 : decode cL_pageOf 7 = .ok (.ireturn, 1) := by decide +kernel
theorem dL_pageOf_8 : decode cL_pageOf 8 = .ok (.astore 4, 2) := by decide +kernel
theorem dL_pageOf_10 : decode cL_pageOf 10 = .ok (.ldc 52, 2) := by decide +kernel
theorem dL_pageOf_12 : decode cL_pageOf 12 = .ok (.ireturn, 1) := by decide +kernel
theorem dL_pageOf_13 : decode cL_pageOf 13 = .ok (.astore 4, 2) := by decide +kernel
theorem dL_pageOf_15 : decode cL_pageOf 15 = .ok (.ldc 58, 2) := by decide +kernel
theorem dL_pageOf_17 : decode cL_pageOf 17 = .ok (.ireturn, 1) := by decide +kernel
theorem okL_pageOf : okY yL_pageOf 4 := ⟨by decide +kernel, by decide +kernel, by decide +kernel⟩
theorem tYL_pageOf : Cond.codeWith yL_pageOf cL_pageOf 5 (some .int) [(0, 7, 8, 50), (0, 7, 13, 56)] ∈ W0 := W0_4 (i := 156) rfl rfl
set_option maxHeartbeats 1000000 in
theorem wl_pageOf (l : Launch) (D : va_G) (cA : Nat → ClassId) (h ab ac ar : Nat → Nat) (hst : l.stackTraces = false) (b1 : Bool) (a2 : Int32) (a3 : Int32) {S : ivS} {z : Bool} {w ws : va_W} {mu : Mu} (hI : ivI cA h ab ac ar S z w) (hR : LR cA w ws mu) : ConY l D cA yL_pageOf (wmW yL_pageOf cL_pageOf 5 (some .int) [(0, 7, 8, 50), (0, 7, 13, 56)]) { frames := 8, cells := 2, slots := 12, locals := 182 } ws [.ref (h 0), .int (bI b1), .int a2, .int a3] 2 12 (PI (fun r w2 => ∃ w1, ivI cA h ab ac ar (s_pageOf S b1 a2 a3).2.2.2 (s_pageOf S b1 a2 a3).2.2.1 w1 ∧ LR cA w1 w2 mu ∧ r = an2 (s_pageOf S b1 a2 a3) (-2000000097) (-2000000100))) := by
  obtain ⟨l0, rfl, hl⟩ := hR
  obtain ⟨fs, t, hw⟩ := hI.hd
  refine ConY.of (by decide) (Nat.le_of_ble_eq_true rfl) ?_
  intro p e s m args below meth c C hE hT hr
  refine k_eq (ws' := w ++ l0) (lv' := [(0, .ref (h 0)), (1, .int (bI b1)), (2, .int a2), (3, .int a3)]) (st' := []) rfl rfl rfl ?_
  refine k_aload_n C 0 (pc := 0) dL_pageOf_0 rfl rfl ?_
  refine k_iload_n C 1 (pc := 1) dL_pageOf_1 rfl rfl ?_
  refine k_iload_n C 2 (pc := 2) dL_pageOf_2 rfl rfl ?_
  refine k_iload_n C 3 (pc := 3) dL_pageOf_3 rfl rfl ?_
  refine kx_onL C (pc := 4) (kx_runV C hE.1 (As := [.int (bI b1), .int a2, .int a3]) (rest := []) (ci := 6) (q0 := 0) (xi_pageOf l D cA h ab ac ar hst b1 a2 a3 hI) ⟨k_cwB C tW_4_160 tW_4_157 tW_1_1 okX6_pageOf rfl rfl ⟨Nat.le_of_ble_eq_true rfl, Nat.le_of_ble_eq_true rfl⟩, C.w tW_4_158, C.w tW_4_159⟩ (by rw [hw]; rfl) rfl rfl rfl rfl (Nat.le_of_ble_eq_true rfl) dL_pageOf_4 ⟨Nat.le_of_ble_eq_true rfl, Nat.le_of_ble_eq_true rfl⟩) (fun v w1 h_ => by obtain ⟨r, rfl, h1⟩ := h_; exact h1.2.2.ad.trans hI.ad.symm) (fun E w1 h_ => by rcases h_ with ⟨-, h1⟩ | ⟨-, h1⟩ <;> exact h1.2.ad.trans hI.ad.symm) (fun E w1 hx => ?_) (fun v w1 hv => ?_)
  · rcases hx with ⟨rfl, h1, h2⟩ | ⟨rfl, h1, h2⟩
    · refine ky_catch C (pc := 4) (pre := []) (suf := [(0, 7, 13, 56)]) (0, 7, 8, 50) hT rfl (fun _ h_ => absurd h_ List.not_mem_nil) (by decide) (by decide) tW_3_159 (va_Nw.use rfl (hE.1.2.2.2.1 "java/lang/IndexOutOfBoundsException" (List.mem_of_getElem? (i := 1) rfl))) (fun q_ => ?_)
      refine k_astore C (pc := 8) dL_pageOf_8 (Nat.lt_of_lt_of_le (Nat.lt_succ_self _) (Nat.le_of_ble_eq_true rfl)) (lv' := [(4, .ref q_), (0, .ref (h 0)), (1, .int (bI b1)), (2, .int a2), (3, .int a3)]) rfl ?_
      refine k_ldc C (pc := 10) (v := (-2000000097 : Int32)) tW_3_203 dL_pageOf_10 ?_
      exact kx_iret C (pc := 12) hr dL_pageOf_12 (Nat.le_of_ble_eq_true rfl) (Nat.le_of_ble_eq_true rfl) ⟨w1, h2, ⟨l0, rfl, hl⟩, (an2_1 h1).symm⟩
    · refine ky_catch C (pc := 4) (pre := [(0, 7, 8, 50)]) (suf := []) (0, 7, 13, 56) hT rfl (List.forall_mem_cons.mpr ⟨⟨by decide, "java/lang/IndexOutOfBoundsException", tW_3_159, hE.2 ("java/util/NoSuchElementException", "java/lang/IndexOutOfBoundsException") (List.mem_of_getElem? (i := 1) rfl)⟩, fun _ h_ => absurd h_ List.not_mem_nil⟩) (by decide) (by decide) tW_3_160 (va_Nw.use rfl (hE.1.2.2.2.1 "java/util/NoSuchElementException" (List.mem_of_getElem? (i := 2) rfl))) (fun q_ => ?_)
      refine k_astore C (pc := 13) dL_pageOf_13 (Nat.lt_of_lt_of_le (Nat.lt_succ_self _) (Nat.le_of_ble_eq_true rfl)) (lv' := [(4, .ref q_), (0, .ref (h 0)), (1, .int (bI b1)), (2, .int a2), (3, .int a3)]) rfl ?_
      refine k_ldc C (pc := 15) (v := (-2000000100 : Int32)) tW_3_204 dL_pageOf_15 ?_
      exact kx_iret C (pc := 17) hr dL_pageOf_17 (Nat.le_of_ble_eq_true rfl) (Nat.le_of_ble_eq_true rfl) ⟨w1, h2, ⟨l0, rfl, hl⟩, (an2_2 h1).symm⟩
  · obtain ⟨r, rfl, h1, h2, h3⟩ := hv
    refine k_eq (pc := 7) (ws' := w1 ++ l0) (st' := [.int r]) rfl rfl rfl ?_
    exact kx_iret C (pc := 7) hr dL_pageOf_7 (Nat.le_of_ble_eq_true rfl) (Nat.le_of_ble_eq_true rfl) ⟨w1, h3, ⟨l0, rfl, hl⟩, h2.trans (an2_0 h1).symm⟩

/-! help -/
theorem dL_help_0 : decode cL_help 0 = .ok (.aload_n 0, 1) := by decide +kernel
theorem dL_help_1 : decode cL_help 1 = .ok (.iload_n 1, 1) := by decide +kernel
theorem dL_help_2 : decode cL_help 2 = .ok (.invokevirtual 74, 3) := by decide +kernel
theorem dL_help_5 : decode cL_help 5 = .ok (.ireturn, 1) := by decide +kernel
theorem dL_help_6 : decode cL_help 6 = .ok (.astore_n 2, 1) := by decide +kernel
theorem dL_help_7 : decode cL_help 7 = .ok (.ldc 52, 2) := by decide +kernel
theorem dL_help_9 : decode cL_help 9 = .ok (.ireturn, 1) := by decide +kernel
theorem okL_help : okY yL_help 2 := ⟨by decide +kernel, by decide +kernel, by decide +kernel⟩
theorem tYL_help : Cond.codeWith yL_help cL_help 3 (some .int) [(0, 5, 6, 50)] ∈ W0 := W0_4 (i := 168) rfl rfl
set_option maxHeartbeats 1000000 in
theorem wl_help (l : Launch) (D : va_G) (cA : Nat → ClassId) (h ab ac ar : Nat → Nat) (hst : l.stackTraces = false) (a1 : Int32) {S : ivS} {z : Bool} {w ws : va_W} {mu : Mu} (hI : ivI cA h ab ac ar S z w) (hR : LR cA w ws mu) : ConY l D cA yL_help (wmW yL_help cL_help 3 (some .int) [(0, 5, 6, 50)]) { frames := 8, cells := 1, slots := 6, locals := 139 } ws [.ref (h 0), .int a1] 1 6 (PI (fun r w2 => ∃ w1, ivI cA h ab ac ar (s_help S a1).2.2.2 (s_help S a1).2.2.1 w1 ∧ LR cA w1 w2 mu ∧ r = an1 (s_help S a1) (-2000000097))) := by
  obtain ⟨l0, rfl, hl⟩ := hR
  obtain ⟨fs, t, hw⟩ := hI.hd
  refine ConY.of (by decide) (Nat.le_of_ble_eq_true rfl) ?_
  intro p e s m args below meth c C hE hT hr
  refine k_eq (ws' := w ++ l0) (lv' := [(0, .ref (h 0)), (1, .int a1)]) (st' := []) rfl rfl rfl ?_
  refine k_aload_n C 0 (pc := 0) dL_help_0 rfl rfl ?_
  refine k_iload_n C 1 (pc := 1) dL_help_1 rfl rfl ?_
  refine kx_onL C (pc := 2) (kx_runV C hE.1 (As := [.int a1]) (rest := []) (ci := 6) (q0 := 0) (xi_help l D cA h ab ac ar hst a1 hI) ⟨k_cwB C tW_4_172 tW_4_169 tW_1_1 okX6_help rfl rfl ⟨Nat.le_of_ble_eq_true rfl, Nat.le_of_ble_eq_true rfl⟩, C.w tW_4_170, C.w tW_4_171⟩ (by rw [hw]; rfl) rfl rfl rfl rfl (Nat.le_of_ble_eq_true rfl) dL_help_2 ⟨Nat.le_of_ble_eq_true rfl, Nat.le_of_ble_eq_true rfl⟩) (fun v w1 h_ => by obtain ⟨r, rfl, h1⟩ := h_; exact h1.2.2.ad.trans hI.ad.symm) (fun E w1 h_ => by rcases h_ with ⟨-, h1⟩ <;> exact h1.2.ad.trans hI.ad.symm) (fun E w1 hx => ?_) (fun v w1 hv => ?_)
  · obtain ⟨rfl, h1, h2⟩ := hx
    refine ky_catch C (pc := 2) (pre := []) (suf := []) (0, 5, 6, 50) hT rfl (fun _ h_ => absurd h_ List.not_mem_nil) (by decide) (by decide) tW_3_159 (va_Nw.use rfl (hE.1.2.2.2.1 "java/lang/IndexOutOfBoundsException" (List.mem_of_getElem? (i := 1) rfl))) (fun q_ => ?_)
    refine k_astore_n C (pc := 6) dL_help_6 rfl (Nat.lt_of_lt_of_le (Nat.lt_succ_self _) (Nat.le_of_ble_eq_true rfl)) (lv' := [(2, .ref q_), (0, .ref (h 0)), (1, .int a1)]) rfl ?_
    refine k_ldc C (pc := 7) (v := (-2000000097 : Int32)) tW_3_203 dL_help_7 ?_
    exact kx_iret C (pc := 9) hr dL_help_9 (Nat.le_of_ble_eq_true rfl) (Nat.le_of_ble_eq_true rfl) ⟨w1, h2, ⟨l0, rfl, hl⟩, (an1_1 h1).symm⟩
  · obtain ⟨r, rfl, h1, h2, h3⟩ := hv
    refine k_eq (pc := 5) (ws' := w1 ++ l0) (st' := [.int r]) rfl rfl rfl ?_
    exact kx_iret C (pc := 5) hr dL_help_5 (Nat.le_of_ble_eq_true rfl) (Nat.le_of_ble_eq_true rfl) ⟨w1, h3, ⟨l0, rfl, hl⟩, h2.trans (an1_0 h1).symm⟩

/-! fix -/
theorem dL_fix_0 : decode cL_fix 0 = .ok (.aload_n 0, 1) := by decide +kernel
theorem dL_fix_1 : decode cL_fix 1 = .ok (.iload_n 1, 1) := by decide +kernel
theorem dL_fix_2 : decode cL_fix 2 = .ok (.iload_n 2, 1) := by decide +kernel
theorem dL_fix_3 : decode cL_fix 3 = .ok (.invokevirtual 77, 3) := by decide +kernel
theorem dL_fix_6 : decode cL_fix 6 = .ok (.ireturn, 1) := by decide +kernel
theorem dL_fix_7 : decode cL_fix 7 = .ok (.astore_n 3, 1) := by decide +kernel
theorem dL_fix_8 : decode cL_fix 8 = .ok (.ldc 52, 2) := by decide +kernel
theorem dL_fix_10 : decode cL_fix 10 = .ok (.ireturn, 1) := by decide +kernel
theorem dL_fix_11 : decode cL_fix 11 = .ok (.astore_n 3, 1) := by decide +kernel
theorem dL_fix_12 : decode cL_fix 12 = .ok (.ldc 42, 2) := by decide +kernel
theorem dL_fix_14 : decode cL_fix 14 = .ok (.ireturn, 1) := by decide +kernel
theorem okL_fix : okY yL_fix 3 := ⟨by decide +kernel, by decide +kernel, by decide +kernel⟩
theorem tYL_fix : Cond.codeWith yL_fix cL_fix 4 (some .int) [(0, 6, 7, 50), (0, 6, 11, 40)] ∈ W0 := W0_4 (i := 181) rfl rfl
set_option maxHeartbeats 1000000 in
theorem wl_fix (l : Launch) (D : va_G) (cA : Nat → ClassId) (h ab ac ar : Nat → Nat) (hst : l.stackTraces = false) (a1 : Int32) (a2 : Int32) {S : ivS} {z : Bool} {w ws : va_W} {mu : Mu} (hI : ivI cA h ab ac ar S z w) (hR : LR cA w ws mu) : ConY l D cA yL_fix (wmW yL_fix cL_fix 4 (some .int) [(0, 6, 7, 50), (0, 6, 11, 40)]) { frames := 8, cells := 2, slots := 12, locals := 139 } ws [.ref (h 0), .int a1, .int a2] 2 12 (PI (fun r w2 => ∃ w1, ivI cA h ab ac ar (s_fix S a1 a2).2.2.2 (s_fix S a1 a2).2.2.1 w1 ∧ LR cA w1 w2 mu ∧ r = an2 (s_fix S a1 a2) (-2000000097) (-2000000098))) := by
  obtain ⟨l0, rfl, hl⟩ := hR
  obtain ⟨fs, t, hw⟩ := hI.hd
  refine ConY.of (by decide) (Nat.le_of_ble_eq_true rfl) ?_
  intro p e s m args below meth c C hE hT hr
  refine k_eq (ws' := w ++ l0) (lv' := [(0, .ref (h 0)), (1, .int a1), (2, .int a2)]) (st' := []) rfl rfl rfl ?_
  refine k_aload_n C 0 (pc := 0) dL_fix_0 rfl rfl ?_
  refine k_iload_n C 1 (pc := 1) dL_fix_1 rfl rfl ?_
  refine k_iload_n C 2 (pc := 2) dL_fix_2 rfl rfl ?_
  refine kx_onL C (pc := 3) (kx_runV C hE.1 (As := [.int a1, .int a2]) (rest := []) (ci := 6) (q0 := 0) (xi_fix l D cA h ab ac ar hst a1 a2 hI) ⟨k_cwB C tW_4_185 tW_4_182 tW_1_1 okX6_fix rfl rfl ⟨Nat.le_of_ble_eq_true rfl, Nat.le_of_ble_eq_true rfl⟩, C.w tW_4_183, C.w tW_4_184⟩ (by rw [hw]; rfl) rfl rfl rfl rfl (Nat.le_of_ble_eq_true rfl) dL_fix_3 ⟨Nat.le_of_ble_eq_true rfl, Nat.le_of_ble_eq_true rfl⟩) (fun v w1 h_ => by obtain ⟨r, rfl, h1⟩ := h_; exact h1.2.2.ad.trans hI.ad.symm) (fun E w1 h_ => by rcases h_ with ⟨-, h1⟩ | ⟨-, h1⟩ <;> exact h1.2.ad.trans hI.ad.symm) (fun E w1 hx => ?_) (fun v w1 hv => ?_)
  · rcases hx with ⟨rfl, h1, h2⟩ | ⟨rfl, h1, h2⟩
    · refine ky_catch C (pc := 3) (pre := []) (suf := [(0, 6, 11, 40)]) (0, 6, 7, 50) hT rfl (fun _ h_ => absurd h_ List.not_mem_nil) (by decide) (by decide) tW_3_159 (va_Nw.use rfl (hE.1.2.2.2.1 "java/lang/IndexOutOfBoundsException" (List.mem_of_getElem? (i := 1) rfl))) (fun q_ => ?_)
      refine k_astore_n C (pc := 7) dL_fix_7 rfl (Nat.lt_of_lt_of_le (Nat.lt_succ_self _) (Nat.le_of_ble_eq_true rfl)) (lv' := [(3, .ref q_), (0, .ref (h 0)), (1, .int a1), (2, .int a2)]) rfl ?_
      refine k_ldc C (pc := 8) (v := (-2000000097 : Int32)) tW_3_203 dL_fix_8 ?_
      exact kx_iret C (pc := 10) hr dL_fix_10 (Nat.le_of_ble_eq_true rfl) (Nat.le_of_ble_eq_true rfl) ⟨w1, h2, ⟨l0, rfl, hl⟩, (an2_1 h1).symm⟩
    · refine ky_catch C (pc := 3) (pre := [(0, 6, 7, 50)]) (suf := []) (0, 6, 11, 40) hT rfl (List.forall_mem_cons.mpr ⟨⟨by decide, "java/lang/IndexOutOfBoundsException", tW_3_159, hE.2 ("java/lang/IllegalArgumentException", "java/lang/IndexOutOfBoundsException") (List.mem_of_getElem? (i := 0) rfl)⟩, fun _ h_ => absurd h_ List.not_mem_nil⟩) (by decide) (by decide) tW_2_175 (va_Nw.use rfl (hE.1.2.2.2.1 "java/lang/IllegalArgumentException" (List.mem_of_getElem? (i := 0) rfl))) (fun q_ => ?_)
      refine k_astore_n C (pc := 11) dL_fix_11 rfl (Nat.lt_of_lt_of_le (Nat.lt_succ_self _) (Nat.le_of_ble_eq_true rfl)) (lv' := [(3, .ref q_), (0, .ref (h 0)), (1, .int a1), (2, .int a2)]) rfl ?_
      refine k_ldc C (pc := 12) (v := (-2000000098 : Int32)) tW_3_155 dL_fix_12 ?_
      exact kx_iret C (pc := 14) hr dL_fix_14 (Nat.le_of_ble_eq_true rfl) (Nat.le_of_ble_eq_true rfl) ⟨w1, h2, ⟨l0, rfl, hl⟩, (an2_2 h1).symm⟩
  · obtain ⟨r, rfl, h1, h2, h3⟩ := hv
    refine k_eq (pc := 6) (ws' := w1 ++ l0) (st' := [.int r]) rfl rfl rfl ?_
    exact kx_iret C (pc := 6) hr dL_fix_6 (Nat.le_of_ble_eq_true rfl) (Nat.le_of_ble_eq_true rfl) ⟨w1, h3, ⟨l0, rfl, hl⟩, h2.trans (an2_0 h1).symm⟩

/-! begin -/
theorem dL_begin_0 : decode cL_begin 0 = .ok (.aload_n 0, 1) := by decide +kernel
theorem dL_begin_1 : decode cL_begin 1 = .ok (.iload_n 1, 1) := by decide +kernel
theorem dL_begin_2 : decode cL_begin 2 = .ok (.iload_n 2, 1) := by decide +kernel
theorem dL_begin_3 : decode cL_begin 3 = .ok (.invokevirtual 80, 3) := by decide +kernel
theorem dL_begin_6 : decode cL_begin 6 = .ok (.ifCond .eq 7, 3) := by decide +kernel
theorem dL_begin_9 : decode cL_begin 9 = .ok (.iconst 1, 1) := by decide +kernel
theorem dL_begin_10 : decode cL_begin 10 = .ok (.goto 4, 3) := by decide +kernel
theorem dL_begin_13 : decode cL_begin 13 = .ok (.iconst 0, 1) := by decide +kernel
theorem dL_begin_14 : decode cL_begin 14 = .ok (.ireturn, 1) := by decide +kernel
theorem dL_begin_15 : decode cL_begin 15 = .ok (.astore_n 3, 1) := by decide +kernel
theorem dL_begin_16 : decode cL_begin 16 = .ok (.ldc 52, 2) := by decide +kernel
theorem dL_begin_18 : decode cL_begin 18 = .ok (.ireturn, 1) := by decide +kernel
theorem okL_begin : okY yL_begin 3 := ⟨by decide +kernel, by decide +kernel, by decide +kernel⟩
theorem tYL_begin : Cond.codeWith yL_begin cL_begin 4 (some .int) [(0, 14, 15, 50)] ∈ W0 := W0_4 (i := 190) rfl rfl
set_option maxHeartbeats 1000000 in
theorem wl_begin (l : Launch) (D : va_G) (cA : Nat → ClassId) (h ab ac ar : Nat → Nat) (hst : l.stackTraces = false) (a1 : Int32) (b2 : Bool) {S : ivS} {z : Bool} {w ws : va_W} {mu : Mu} (hI : ivI cA h ab ac ar S z w) (hR : LR cA w ws mu) : ConY l D cA yL_begin (wmW yL_begin cL_begin 4 (some .int) [(0, 14, 15, 50)]) { frames := 8, cells := 1, slots := 6, locals := 139 } ws [.ref (h 0), .int a1, .int (bI b2)] 1 6 (PI (fun r w2 => ∃ w1, ivI cA h ab ac ar (s_begin S a1 b2).2.2.2 (s_begin S a1 b2).2.2.1 w1 ∧ LR cA w1 w2 mu ∧ r = an1 (s_begin S a1 b2) (-2000000097))) := by
  obtain ⟨l0, rfl, hl⟩ := hR
  obtain ⟨fs, t, hw⟩ := hI.hd
  refine ConY.of (by decide) (Nat.le_of_ble_eq_true rfl) ?_
  intro p e s m args below meth c C hE hT hr
  refine k_eq (ws' := w ++ l0) (lv' := [(0, .ref (h 0)), (1, .int a1), (2, .int (bI b2))]) (st' := []) rfl rfl rfl ?_
  refine k_aload_n C 0 (pc := 0) dL_begin_0 rfl rfl ?_
  refine k_iload_n C 1 (pc := 1) dL_begin_1 rfl rfl ?_
  refine k_iload_n C 2 (pc := 2) dL_begin_2 rfl rfl ?_
  refine kx_onL C (pc := 3) (kx_runV C hE.1 (As := [.int a1, .int (bI b2)]) (rest := []) (ci := 6) (q0 := 0) (xi_begin l D cA h ab ac ar hst a1 b2 hI) ⟨k_cwB C tW_4_194 tW_4_191 tW_1_1 okX6_begin rfl rfl ⟨Nat.le_of_ble_eq_true rfl, Nat.le_of_ble_eq_true rfl⟩, C.w tW_4_192, C.w tW_4_193⟩ (by rw [hw]; rfl) rfl rfl rfl rfl (Nat.le_of_ble_eq_true rfl) dL_begin_3 ⟨Nat.le_of_ble_eq_true rfl, Nat.le_of_ble_eq_true rfl⟩) (fun v w1 h_ => by obtain ⟨r, rfl, h1⟩ := h_; exact h1.2.2.ad.trans hI.ad.symm) (fun E w1 h_ => by rcases h_ with ⟨-, h1⟩ <;> exact h1.2.ad.trans hI.ad.symm) (fun E w1 hx => ?_) (fun v w1 hv => ?_)
  · obtain ⟨rfl, h1, h2⟩ := hx
    refine ky_catch C (pc := 3) (pre := []) (suf := []) (0, 14, 15, 50) hT rfl (fun _ h_ => absurd h_ List.not_mem_nil) (by decide) (by decide) tW_3_159 (va_Nw.use rfl (hE.1.2.2.2.1 "java/lang/IndexOutOfBoundsException" (List.mem_of_getElem? (i := 1) rfl))) (fun q_ => ?_)
    refine k_astore_n C (pc := 15) dL_begin_15 rfl (Nat.lt_of_lt_of_le (Nat.lt_succ_self _) (Nat.le_of_ble_eq_true rfl)) (lv' := [(3, .ref q_), (0, .ref (h 0)), (1, .int a1), (2, .int (bI b2))]) rfl ?_
    refine k_ldc C (pc := 16) (v := (-2000000097 : Int32)) tW_3_203 dL_begin_16 ?_
    exact kx_iret C (pc := 18) hr dL_begin_18 (Nat.le_of_ble_eq_true rfl) (Nat.le_of_ble_eq_true rfl) ⟨w1, h2, ⟨l0, rfl, hl⟩, (an1_1 h1).symm⟩
  · obtain ⟨r, rfl, h1, h2, h3⟩ := hv
    refine k_eq (pc := 6) (ws' := w1 ++ l0) (st' := [.int r]) rfl rfl rfl ?_
    have h01 := s_begin_01 h1
    refine k_if_eq C (pc := 6) (tgt := 13) dL_begin_6 (by decide) (fun c_ => ?_) (fun c_ => ?_)
    · refine k_iconst C (pc := 13) (v := (0 : Int32)) dL_begin_13 rfl ?_
      exact kx_iret C (pc := 14) hr dL_begin_14 (Nat.le_of_ble_eq_true rfl) (Nat.le_of_ble_eq_true rfl) ⟨w1, h3, ⟨l0, rfl, hl⟩, (c_.symm.trans h2).trans (an1_0 h1).symm⟩
    · refine k_iconst C (pc := 9) (v := (1 : Int32)) dL_begin_9 rfl ?_
      refine k_goto C (pc := 10) (tgt := 14) dL_begin_10 (by decide) ?_
      exact kx_iret C (pc := 14) hr dL_begin_14 (Nat.le_of_ble_eq_true rfl) (Nat.le_of_ble_eq_true rfl) ⟨w1, h3, ⟨l0, rfl, hl⟩, ((h01.resolve_left (by rw [← h2]; exact c_)).symm).trans (an1_0 h1).symm⟩

/-! insert -/
theorem dL_insert_0 : decode cL_insert 0 = .ok (.aload_n 0, 1) := by decide +kernel
theorem dL_insert_1 : decode cL_insert 1 = .ok (.iload_n 1, 1) := by decide +kernel
theorem dL_insert_2 : decode cL_insert 2 = .ok (.iload_n 2, 1) := by decide +kernel
theorem dL_insert_3 : decode cL_insert 3 = .ok (.iload_n 3, 1) := by decide +kernel
theorem dL_insert_4 : decode cL_insert 4 = .ok (.invokevirtual 84, 3) := by decide +kernel
theorem dL_insert_7 : decode cL_insert 7 = .ok (.ireturn, 1) := by decide +kernel
theorem dL_insert_8 : decode cL_insert 8 = .ok (.astore 4, 2) := by decide +kernel
theorem dL_insert_10 : decode cL_insert 10 = .ok (.ldc 42, 2) := by decide +kernel
theorem dL_insert_12 : decode cL_insert 12 = .ok (.ireturn, 1) := by decide +kernel
theorem dL_insert_13 : decode cL_insert 13 = .ok (.astore 4, 2) := by decide +kernel
theorem dL_insert_15 : decode cL_insert 15 = .ok (.ldc 89, 2) := by decide +kernel
theorem dL_insert_17 : decode cL_insert 17 = .ok (.ireturn, 1) := by decide +kernel
theorem okL_insert : okY yL_insert 4 := ⟨by decide +kernel, by decide +kernel, by decide +kernel⟩
theorem tYL_insert : Cond.codeWith yL_insert cL_insert 5 (some .int) [(0, 7, 8, 40), (0, 7, 13, 87)] ∈ W0 := W0_4 (i := 198) rfl rfl
set_option maxHeartbeats 1000000 in
theorem wl_insert (l : Launch) (D : va_G) (cA : Nat → ClassId) (h ab ac ar : Nat → Nat) (hst : l.stackTraces = false) (a1 : Int32) (a2 : Int32) (a3 : Int32) {S : ivS} {z : Bool} {w ws : va_W} {mu : Mu} (hI : ivI cA h ab ac ar S z w) (hR : LR cA w ws mu) : ConY l D cA yL_insert (wmW yL_insert cL_insert 5 (some .int) [(0, 7, 8, 40), (0, 7, 13, 87)]) { frames := 7, cells := 1, slots := 6, locals := 140 } ws [.ref (h 0), .int a1, .int a2, .int a3] 1 6 (PI (fun r w2 => ∃ w1, ivI cA h ab ac ar (s_insert S a1 a2 a3).2.2.2 (s_insert S a1 a2 a3).2.2.1 w1 ∧ LR cA w1 w2 mu ∧ r = an2 (s_insert S a1 a2 a3) (-2000000098) (-2000000099))) := by
  obtain ⟨l0, rfl, hl⟩ := hR
  obtain ⟨fs, t, hw⟩ := hI.hd
  refine ConY.of (by decide) (Nat.le_of_ble_eq_true rfl) ?_
  intro p e s m args below meth c C hE hT hr
  refine k_eq (ws' := w ++ l0) (lv' := [(0, .ref (h 0)), (1, .int a1), (2, .int a2), (3, .int a3)]) (st' := []) rfl rfl rfl ?_
  refine k_aload_n C 0 (pc := 0) dL_insert_0 rfl rfl ?_
  refine k_iload_n C 1 (pc := 1) dL_insert_1 rfl rfl ?_
  refine k_iload_n C 2 (pc := 2) dL_insert_2 rfl rfl ?_
  refine k_iload_n C 3 (pc := 3) dL_insert_3 rfl rfl ?_
  refine kx_onL C (pc := 4) (kx_runV C hE.1 (As := [.int a1, .int a2, .int a3]) (rest := []) (ci := 6) (q0 := 0) (xi_insert l D cA h ab ac ar hst a1 a2 a3 hI) ⟨k_cwB C tW_4_203 tW_4_200 tW_1_1 okX6_insert rfl rfl ⟨Nat.le_of_ble_eq_true rfl, Nat.le_of_ble_eq_true rfl⟩, C.w tW_4_201, C.w tW_4_202⟩ (by rw [hw]; rfl) rfl rfl rfl rfl (Nat.le_of_ble_eq_true rfl) dL_insert_4 ⟨Nat.le_of_ble_eq_true rfl, Nat.le_of_ble_eq_true rfl⟩) (fun v w1 h_ => by obtain ⟨r, rfl, h1⟩ := h_; exact h1.2.2.ad.trans hI.ad.symm) (fun E w1 h_ => by rcases h_ with ⟨-, h1⟩ | ⟨-, h1⟩ <;> exact h1.2.ad.trans hI.ad.symm) (fun E w1 hx => ?_) (fun v w1 hv => ?_)
  · rcases hx with ⟨rfl, h1, h2⟩ | ⟨rfl, h1, h2⟩
    · refine ky_catch C (pc := 4) (pre := []) (suf := [(0, 7, 13, 87)]) (0, 7, 8, 40) hT rfl (fun _ h_ => absurd h_ List.not_mem_nil) (by decide) (by decide) tW_2_175 (va_Nw.use rfl (hE.1.2.2.2.1 "java/lang/IllegalArgumentException" (List.mem_of_getElem? (i := 0) rfl))) (fun q_ => ?_)
      refine k_astore C (pc := 8) dL_insert_8 (Nat.lt_of_lt_of_le (Nat.lt_succ_self _) (Nat.le_of_ble_eq_true rfl)) (lv' := [(4, .ref q_), (0, .ref (h 0)), (1, .int a1), (2, .int a2), (3, .int a3)]) rfl ?_
      refine k_ldc C (pc := 10) (v := (-2000000098 : Int32)) tW_3_155 dL_insert_10 ?_
      exact kx_iret C (pc := 12) hr dL_insert_12 (Nat.le_of_ble_eq_true rfl) (Nat.le_of_ble_eq_true rfl) ⟨w1, h2, ⟨l0, rfl, hl⟩, (an2_1 h1).symm⟩
    · refine ky_catch C (pc := 4) (pre := [(0, 7, 8, 40)]) (suf := []) (0, 7, 13, 87) hT rfl (List.forall_mem_cons.mpr ⟨⟨by decide, "java/lang/IllegalArgumentException", tW_2_175, hE.2 ("java/lang/IllegalStateException", "java/lang/IllegalArgumentException") (List.mem_of_getElem? (i := 3) rfl)⟩, fun _ h_ => absurd h_ List.not_mem_nil⟩) (by decide) (by decide) tW_4_199 (va_Nw.use rfl (hE.1.2.2.2.1 "java/lang/IllegalStateException" (List.mem_of_getElem? (i := 3) rfl))) (fun q_ => ?_)
      refine k_astore C (pc := 13) dL_insert_13 (Nat.lt_of_lt_of_le (Nat.lt_succ_self _) (Nat.le_of_ble_eq_true rfl)) (lv' := [(4, .ref q_), (0, .ref (h 0)), (1, .int a1), (2, .int a2), (3, .int a3)]) rfl ?_
      refine k_ldc C (pc := 15) (v := (-2000000099 : Int32)) tW_4_224 dL_insert_15 ?_
      exact kx_iret C (pc := 17) hr dL_insert_17 (Nat.le_of_ble_eq_true rfl) (Nat.le_of_ble_eq_true rfl) ⟨w1, h2, ⟨l0, rfl, hl⟩, (an2_2 h1).symm⟩
  · obtain ⟨r, rfl, h1, h2, h3⟩ := hv
    refine k_eq (pc := 7) (ws' := w1 ++ l0) (st' := [.int r]) rfl rfl rfl ?_
    exact kx_iret C (pc := 7) hr dL_insert_7 (Nat.le_of_ble_eq_true rfl) (Nat.le_of_ble_eq_true rfl) ⟨w1, h3, ⟨l0, rfl, hl⟩, h2.trans (an2_0 h1).symm⟩

/-! remove -/
theorem dL_remove_0 : decode cL_remove 0 = .ok (.aload_n 0, 1) := by decide +kernel
theorem dL_remove_1 : decode cL_remove 1 = .ok (.iload_n 1, 1) := by decide +kernel
theorem dL_remove_2 : decode cL_remove 2 = .ok (.invokevirtual 90, 3) := by decide +kernel
theorem dL_remove_5 : decode cL_remove 5 = .ok (.ireturn, 1) := by decide +kernel
theorem dL_remove_6 : decode cL_remove 6 = .ok (.astore_n 2, 1) := by decide +kernel
theorem dL_remove_7 : decode cL_remove 7 = .ok (.ldc 52, 2) := by decide +kernel
theorem dL_remove_9 : decode cL_remove 9 = .ok (.ireturn, 1) := by decide +kernel
theorem okL_remove : okY yL_remove 2 := ⟨by decide +kernel, by decide +kernel, by decide +kernel⟩
theorem tYL_remove : Cond.codeWith yL_remove cL_remove 3 (some .int) [(0, 5, 6, 50)] ∈ W0 := W0_4 (i := 227) rfl rfl
set_option maxHeartbeats 1000000 in
theorem wl_remove (l : Launch) (D : va_G) (cA : Nat → ClassId) (h ab ac ar : Nat → Nat) (hst : l.stackTraces = false) (a1 : Int32) {S : ivS} {z : Bool} {w ws : va_W} {mu : Mu} (hI : ivI cA h ab ac ar S z w) (hR : LR cA w ws mu) : ConY l D cA yL_remove (wmW yL_remove cL_remove 3 (some .int) [(0, 5, 6, 50)]) { frames := 8, cells := 1, slots := 6, locals := 138 } ws [.ref (h 0), .int a1] 1 6 (PI (fun r w2 => ∃ w1, ivI cA h ab ac ar (s_remove S a1).2.2.2 (s_remove S a1).2.2.1 w1 ∧ LR cA w1 w2 mu ∧ r = an1 (s_remove S a1) (-2000000097))) := by
  obtain ⟨l0, rfl, hl⟩ := hR
  obtain ⟨fs, t, hw⟩ := hI.hd
  refine ConY.of (by decide) (Nat.le_of_ble_eq_true rfl) ?_
  intro p e s m args below meth c C hE hT hr
  refine k_eq (ws' := w ++ l0) (lv' := [(0, .ref (h 0)), (1, .int a1)]) (st' := []) rfl rfl rfl ?_
  refine k_aload_n C 0 (pc := 0) dL_remove_0 rfl rfl ?_
  refine k_iload_n C 1 (pc := 1) dL_remove_1 rfl rfl ?_
  refine kx_onL C (pc := 2) (kx_runV C hE.1 (As := [.int a1]) (rest := []) (ci := 6) (q0 := 0) (xi_remove l D cA h ab ac ar hst a1 hI) ⟨k_cwB C tW_4_231 tW_4_228 tW_1_1 okX6_remove rfl rfl ⟨Nat.le_of_ble_eq_true rfl, Nat.le_of_ble_eq_true rfl⟩, C.w tW_4_229, C.w tW_4_230⟩ (by rw [hw]; rfl) rfl rfl rfl rfl (Nat.le_of_ble_eq_true rfl) dL_remove_2 ⟨Nat.le_of_ble_eq_true rfl, Nat.le_of_ble_eq_true rfl⟩) (fun v w1 h_ => by obtain ⟨r, rfl, h1⟩ := h_; exact h1.2.2.ad.trans hI.ad.symm) (fun E w1 h_ => by rcases h_ with ⟨-, h1⟩ <;> exact h1.2.ad.trans hI.ad.symm) (fun E w1 hx => ?_) (fun v w1 hv => ?_)
  · obtain ⟨rfl, h1, h2⟩ := hx
    refine ky_catch C (pc := 2) (pre := []) (suf := []) (0, 5, 6, 50) hT rfl (fun _ h_ => absurd h_ List.not_mem_nil) (by decide) (by decide) tW_3_159 (va_Nw.use rfl (hE.1.2.2.2.1 "java/lang/IndexOutOfBoundsException" (List.mem_of_getElem? (i := 1) rfl))) (fun q_ => ?_)
    refine k_astore_n C (pc := 6) dL_remove_6 rfl (Nat.lt_of_lt_of_le (Nat.lt_succ_self _) (Nat.le_of_ble_eq_true rfl)) (lv' := [(2, .ref q_), (0, .ref (h 0)), (1, .int a1)]) rfl ?_
    refine k_ldc C (pc := 7) (v := (-2000000097 : Int32)) tW_3_203 dL_remove_7 ?_
    exact kx_iret C (pc := 9) hr dL_remove_9 (Nat.le_of_ble_eq_true rfl) (Nat.le_of_ble_eq_true rfl) ⟨w1, h2, ⟨l0, rfl, hl⟩, (an1_1 h1).symm⟩
  · obtain ⟨r, rfl, h1, h2, h3⟩ := hv
    refine k_eq (pc := 5) (ws' := w1 ++ l0) (st' := [.int r]) rfl rfl rfl ?_
    exact kx_iret C (pc := 5) hr dL_remove_5 (Nat.le_of_ble_eq_true rfl) (Nat.le_of_ble_eq_true rfl) ⟨w1, h3, ⟨l0, rfl, hl⟩, h2.trans (an1_0 h1).symm⟩

/-! retouch -/
theorem dL_retouch_0 : decode cL_retouch 0 = .ok (.aload_n 0, 1) := by decide +kernel
theorem dL_retouch_1 : decode cL_retouch 1 = .ok (.iload_n 1, 1) := by decide +kernel
theorem dL_retouch_2 : decode cL_retouch 2 = .ok (.iload_n 2, 1) := by decide +kernel
theorem dL_retouch_3 : decode cL_retouch 3 = .ok (.iload_n 3, 1) := by decide +kernel
theorem dL_retouch_4 : decode cL_retouch 4 = .ok (.invokevirtual 93, 3) := by decide +kernel
theorem dL_retouch_7 : decode cL_retouch 7 = .ok (.ireturn, 1) := by decide +kernel
theorem dL_retouch_8 : decode cL_retouch 8 = .ok (.astore 4, 2) := by decide +kernel
theorem dL_retouch_10 : decode cL_retouch 10 = .ok (.ldc 52, 2) := by decide +kernel
theorem dL_retouch_12 : decode cL_retouch 12 = .ok (.ireturn, 1) := by decide +kernel
theorem dL_retouch_13 : decode cL_retouch 13 = .ok (.astore 4, 2) := by decide +kernel
theorem dL_retouch_15 : decode cL_retouch 15 = .ok (.ldc 42, 2) := by decide +kernel
theorem dL_retouch_17 : decode cL_retouch 17 = .ok (.ireturn, 1) := by decide +kernel
theorem dL_retouch_18 : decode cL_retouch 18 = .ok (.astore 4, 2) := by decide +kernel
theorem dL_retouch_20 : decode cL_retouch 20 = .ok (.ldc 89, 2) := by decide +kernel
theorem dL_retouch_22 : decode cL_retouch 22 = .ok (.ireturn, 1) := by decide +kernel
theorem okL_retouch : okY yL_retouch 4 := ⟨by decide +kernel, by decide +kernel, by decide +kernel⟩
theorem tYL_retouch : Cond.codeWith yL_retouch cL_retouch 5 (some .int) [(0, 7, 8, 50), (0, 7, 13, 40), (0, 7, 18, 87)] ∈ W0 := W0_4 (i := 238) rfl rfl
set_option maxHeartbeats 1000000 in
theorem wl_retouch (l : Launch) (D : va_G) (cA : Nat → ClassId) (h ab ac ar : Nat → Nat) (hst : l.stackTraces = false) (a1 : Int32) (a2 : Int32) (a3 : Int32) {S : ivS} {z : Bool} {w ws : va_W} {mu : Mu} (hI : ivI cA h ab ac ar S z w) (hR : LR cA w ws mu) : ConY l D cA yL_retouch (wmW yL_retouch cL_retouch 5 (some .int) [(0, 7, 8, 50), (0, 7, 13, 40), (0, 7, 18, 87)]) { frames := 8, cells := 2, slots := 12, locals := 140 } ws [.ref (h 0), .int a1, .int a2, .int a3] 2 12 (PI (fun r w2 => ∃ w1, ivI cA h ab ac ar (s_retouch S a1 a2 a3).2.2.2 (s_retouch S a1 a2 a3).2.2.1 w1 ∧ LR cA w1 w2 mu ∧ r = an3 (s_retouch S a1 a2 a3) (-2000000097) (-2000000098) (-2000000099))) := by
  obtain ⟨l0, rfl, hl⟩ := hR
  obtain ⟨fs, t, hw⟩ := hI.hd
  refine ConY.of (by decide) (Nat.le_of_ble_eq_true rfl) ?_
  intro p e s m args below meth c C hE hT hr
  refine k_eq (ws' := w ++ l0) (lv' := [(0, .ref (h 0)), (1, .int a1), (2, .int a2), (3, .int a3)]) (st' := []) rfl rfl rfl ?_
  refine k_aload_n C 0 (pc := 0) dL_retouch_0 rfl rfl ?_
  refine k_iload_n C 1 (pc := 1) dL_retouch_1 rfl rfl ?_
  refine k_iload_n C 2 (pc := 2) dL_retouch_2 rfl rfl ?_
  refine k_iload_n C 3 (pc := 3) dL_retouch_3 rfl rfl ?_
  refine kx_onL C (pc := 4) (kx_runV C hE.1 (As := [.int a1, .int a2, .int a3]) (rest := []) (ci := 6) (q0 := 0) (xi_retouch l D cA h ab ac ar hst a1 a2 a3 hI) ⟨k_cwB C tW_5_2 tW_4_239 tW_1_1 okX6_retouch rfl rfl ⟨Nat.le_of_ble_eq_true rfl, Nat.le_of_ble_eq_true rfl⟩, C.w tW_5_0, C.w tW_5_1⟩ (by rw [hw]; rfl) rfl rfl rfl rfl (Nat.le_of_ble_eq_true rfl) dL_retouch_4 ⟨Nat.le_of_ble_eq_true rfl, Nat.le_of_ble_eq_true rfl⟩) (fun v w1 h_ => by obtain ⟨r, rfl, h1⟩ := h_; exact h1.2.2.ad.trans hI.ad.symm) (fun E w1 h_ => by rcases h_ with ⟨-, h1⟩ | ⟨-, h1⟩ | ⟨-, h1⟩ <;> exact h1.2.ad.trans hI.ad.symm) (fun E w1 hx => ?_) (fun v w1 hv => ?_)
  · rcases hx with ⟨rfl, h1, h2⟩ | ⟨rfl, h1, h2⟩ | ⟨rfl, h1, h2⟩
    · refine ky_catch C (pc := 4) (pre := []) (suf := [(0, 7, 13, 40), (0, 7, 18, 87)]) (0, 7, 8, 50) hT rfl (fun _ h_ => absurd h_ List.not_mem_nil) (by decide) (by decide) tW_3_159 (va_Nw.use rfl (hE.1.2.2.2.1 "java/lang/IndexOutOfBoundsException" (List.mem_of_getElem? (i := 1) rfl))) (fun q_ => ?_)
      refine k_astore C (pc := 8) dL_retouch_8 (Nat.lt_of_lt_of_le (Nat.lt_succ_self _) (Nat.le_of_ble_eq_true rfl)) (lv' := [(4, .ref q_), (0, .ref (h 0)), (1, .int a1), (2, .int a2), (3, .int a3)]) rfl ?_
      refine k_ldc C (pc := 10) (v := (-2000000097 : Int32)) tW_3_203 dL_retouch_10 ?_
      exact kx_iret C (pc := 12) hr dL_retouch_12 (Nat.le_of_ble_eq_true rfl) (Nat.le_of_ble_eq_true rfl) ⟨w1, h2, ⟨l0, rfl, hl⟩, (an3_1 h1).symm⟩
    · refine ky_catch C (pc := 4) (pre := [(0, 7, 8, 50)]) (suf := [(0, 7, 18, 87)]) (0, 7, 13, 40) hT rfl (List.forall_mem_cons.mpr ⟨⟨by decide, "java/lang/IndexOutOfBoundsException", tW_3_159, hE.2 ("java/lang/IllegalArgumentException", "java/lang/IndexOutOfBoundsException") (List.mem_of_getElem? (i := 0) rfl)⟩, fun _ h_ => absurd h_ List.not_mem_nil⟩) (by decide) (by decide) tW_2_175 (va_Nw.use rfl (hE.1.2.2.2.1 "java/lang/IllegalArgumentException" (List.mem_of_getElem? (i := 0) rfl))) (fun q_ => ?_)
      refine k_astore C (pc := 13) dL_retouch_13 (Nat.lt_of_lt_of_le (Nat.lt_succ_self _) (Nat.le_of_ble_eq_true rfl)) (lv' := [(4, .ref q_), (0, .ref (h 0)), (1, .int a1), (2, .int a2), (3, .int a3)]) rfl ?_
      refine k_ldc C (pc := 15) (v := (-2000000098 : Int32)) tW_3_155 dL_retouch_15 ?_
      exact kx_iret C (pc := 17) hr dL_retouch_17 (Nat.le_of_ble_eq_true rfl) (Nat.le_of_ble_eq_true rfl) ⟨w1, h2, ⟨l0, rfl, hl⟩, (an3_2 h1).symm⟩
    · refine ky_catch C (pc := 4) (pre := [(0, 7, 8, 50), (0, 7, 13, 40)]) (suf := []) (0, 7, 18, 87) hT rfl (List.forall_mem_cons.mpr ⟨⟨by decide, "java/lang/IndexOutOfBoundsException", tW_3_159, hE.2 ("java/lang/IllegalStateException", "java/lang/IndexOutOfBoundsException") (List.mem_of_getElem? (i := 4) rfl)⟩, List.forall_mem_cons.mpr ⟨⟨by decide, "java/lang/IllegalArgumentException", tW_2_175, hE.2 ("java/lang/IllegalStateException", "java/lang/IllegalArgumentException") (List.mem_of_getElem? (i := 3) rfl)⟩, fun _ h_ => absurd h_ List.not_mem_nil⟩⟩) (by decide) (by decide) tW_4_199 (va_Nw.use rfl (hE.1.2.2.2.1 "java/lang/IllegalStateException" (List.mem_of_getElem? (i := 3) rfl))) (fun q_ => ?_)
      refine k_astore C (pc := 18) dL_retouch_18 (Nat.lt_of_lt_of_le (Nat.lt_succ_self _) (Nat.le_of_ble_eq_true rfl)) (lv' := [(4, .ref q_), (0, .ref (h 0)), (1, .int a1), (2, .int a2), (3, .int a3)]) rfl ?_
      refine k_ldc C (pc := 20) (v := (-2000000099 : Int32)) tW_4_224 dL_retouch_20 ?_
      exact kx_iret C (pc := 22) hr dL_retouch_22 (Nat.le_of_ble_eq_true rfl) (Nat.le_of_ble_eq_true rfl) ⟨w1, h2, ⟨l0, rfl, hl⟩, (an3_3 h1).symm⟩
  · obtain ⟨r, rfl, h1, h2, h3⟩ := hv
    refine k_eq (pc := 7) (ws' := w1 ++ l0) (st' := [.int r]) rfl rfl rfl ?_
    exact kx_iret C (pc := 7) hr dL_retouch_7 (Nat.le_of_ble_eq_true rfl) (Nat.le_of_ble_eq_true rfl) ⟨w1, h3, ⟨l0, rfl, hl⟩, h2.trans (an3_0 h1).symm⟩

/-! setCost -/
theorem dL_setCost_0 : decode cL_setCost 0 = .ok (.aload_n 0, 1) := by decide +kernel
theorem dL_setCost_1 : decode cL_setCost 1 = .ok (.iload_n 1, 1) := by decide +kernel
theorem dL_setCost_2 : decode cL_setCost 2 = .ok (.iload_n 2, 1) := by decide +kernel
theorem dL_setCost_3 : decode cL_setCost 3 = .ok (.invokevirtual 96, 3) := by decide +kernel
theorem dL_setCost_6 : decode cL_setCost 6 = .ok (.ireturn, 1) := by decide +kernel
theorem dL_setCost_7 : decode cL_setCost 7 = .ok (.astore_n 3, 1) := by decide +kernel
theorem dL_setCost_8 : decode cL_setCost 8 = .ok (.ldc 42, 2) := by decide +kernel
theorem dL_setCost_10 : decode cL_setCost 10 = .ok (.ireturn, 1) := by decide +kernel
theorem okL_setCost : okY yL_setCost 3 := ⟨by decide +kernel, by decide +kernel, by decide +kernel⟩
theorem tYL_setCost : Cond.codeWith yL_setCost cL_setCost 4 (some .int) [(0, 6, 7, 40)] ∈ W0 := W0_5 (i := 12) rfl rfl
set_option maxHeartbeats 1000000 in
theorem wl_setCost (l : Launch) (D : va_G) (cA : Nat → ClassId) (h ab ac ar : Nat → Nat) (hst : l.stackTraces = false) (a1 : Int32) (a2 : Int32) {S : ivS} {z : Bool} {w ws : va_W} {mu : Mu} (hI : ivI cA h ab ac ar S z w) (hR : LR cA w ws mu) : ConY l D cA yL_setCost (wmW yL_setCost cL_setCost 4 (some .int) [(0, 6, 7, 40)]) { frames := 7, cells := 1, slots := 6, locals := 139 } ws [.ref (h 0), .int a1, .int a2] 1 6 (PI (fun r w2 => ∃ w1, ivI cA h ab ac ar (s_setCost S a1 a2).2.2.2 (s_setCost S a1 a2).2.2.1 w1 ∧ LR cA w1 w2 mu ∧ r = an1 (s_setCost S a1 a2) (-2000000098))) := by
  obtain ⟨l0, rfl, hl⟩ := hR
  obtain ⟨fs, t, hw⟩ := hI.hd
  refine ConY.of (by decide) (Nat.le_of_ble_eq_true rfl) ?_
  intro p e s m args below meth c C hE hT hr
  refine k_eq (ws' := w ++ l0) (lv' := [(0, .ref (h 0)), (1, .int a1), (2, .int a2)]) (st' := []) rfl rfl rfl ?_
  refine k_aload_n C 0 (pc := 0) dL_setCost_0 rfl rfl ?_
  refine k_iload_n C 1 (pc := 1) dL_setCost_1 rfl rfl ?_
  refine k_iload_n C 2 (pc := 2) dL_setCost_2 rfl rfl ?_
  refine kx_onL C (pc := 3) (kx_runV C hE.1 (As := [.int a1, .int a2]) (rest := []) (ci := 6) (q0 := 0) (xi_setCost l D cA h ab ac ar hst a1 a2 hI) ⟨k_cwB C tW_5_16 tW_5_13 tW_1_1 okX6_setCost rfl rfl ⟨Nat.le_of_ble_eq_true rfl, Nat.le_of_ble_eq_true rfl⟩, C.w tW_5_14, C.w tW_5_15⟩ (by rw [hw]; rfl) rfl rfl rfl rfl (Nat.le_of_ble_eq_true rfl) dL_setCost_3 ⟨Nat.le_of_ble_eq_true rfl, Nat.le_of_ble_eq_true rfl⟩) (fun v w1 h_ => by obtain ⟨r, rfl, h1⟩ := h_; exact h1.2.2.ad.trans hI.ad.symm) (fun E w1 h_ => by rcases h_ with ⟨-, h1⟩ <;> exact h1.2.ad.trans hI.ad.symm) (fun E w1 hx => ?_) (fun v w1 hv => ?_)
  · obtain ⟨rfl, h1, h2⟩ := hx
    refine ky_catch C (pc := 3) (pre := []) (suf := []) (0, 6, 7, 40) hT rfl (fun _ h_ => absurd h_ List.not_mem_nil) (by decide) (by decide) tW_2_175 (va_Nw.use rfl (hE.1.2.2.2.1 "java/lang/IllegalArgumentException" (List.mem_of_getElem? (i := 0) rfl))) (fun q_ => ?_)
    refine k_astore_n C (pc := 7) dL_setCost_7 rfl (Nat.lt_of_lt_of_le (Nat.lt_succ_self _) (Nat.le_of_ble_eq_true rfl)) (lv' := [(3, .ref q_), (0, .ref (h 0)), (1, .int a1), (2, .int a2)]) rfl ?_
    refine k_ldc C (pc := 8) (v := (-2000000098 : Int32)) tW_3_155 dL_setCost_8 ?_
    exact kx_iret C (pc := 10) hr dL_setCost_10 (Nat.le_of_ble_eq_true rfl) (Nat.le_of_ble_eq_true rfl) ⟨w1, h2, ⟨l0, rfl, hl⟩, (an1_1 h1).symm⟩
  · obtain ⟨r, rfl, h1, h2, h3⟩ := hv
    refine k_eq (pc := 6) (ws' := w1 ++ l0) (st' := [.int r]) rfl rfl rfl ?_
    exact kx_iret C (pc := 6) hr dL_setCost_6 (Nat.le_of_ble_eq_true rfl) (Nat.le_of_ble_eq_true rfl) ⟨w1, h3, ⟨l0, rfl, hl⟩, h2.trans (an1_0 h1).symm⟩
