/-! THE LAW'S WRAPPERS over the class's invariant and the row 'out' -/
def ivL (cA : Nat → ClassId) (h ab ac ar : Nat → Nat) (o : Nat) (R : ivR) (k : Int32) (w2 : va_W) : Prop := k = R.1 ∧ ∃ (w' : va_W) (f' : Nat → Int64), w2 = w' ++ [(o, .inl (cA 5, 1, .inr (.inl f')))] ∧ ivI cA h ab ac ar R.2.2.2 R.2.2.1 w' ∧ (R.1 = 0 → f' 0 = R.2.1.toInt64)
theorem cc_get {α : Type} (w : List α) (x : α) : (w ++ [x])[w.length]? = some x := by simp
theorem cc_set {α : Type} (w : List α) (x y : α) : (w ++ [x]).set w.length y = w ++ [y] := by simp
theorem s_begin_01 {S : ivS} {a1 : Int32} {b : Bool} (h : (s_begin S a1 b).1 = 0) : (s_begin S a1 b).2.1 = 0 ∨ (s_begin S a1 b).2.1 = 1 := by
  by_cases hp : inR a1 (dP S.1)
  · have e : s_begin S a1 b = rEd S (bI (dB S.1 (nz a1))) (upd S.1 (11 + 34 * nz a1 + 1) (bI b)) := cif_y hp
    rw [e]
    exact bI_01 _
  · have e : s_begin S a1 b = rNo S 1 := cif_n hp
    rw [e] at h
    exact absurd (show (1 : Int32) = 0 from h) (by decide)
/-! state -/
theorem dL_state_0 : decode cL_state 0 = .ok (.aload_n 2, 1) := by decide +kernel
theorem dL_state_1 : decode cL_state 1 = .ok (.iconst 0, 1) := by decide +kernel
theorem dL_state_2 : decode cL_state 2 = .ok (.aload_n 0, 1) := by decide +kernel
theorem dL_state_3 : decode cL_state 3 = .ok (.iload_n 1, 1) := by decide +kernel
theorem dL_state_4 : decode cL_state 4 = .ok (.invokevirtual 15, 3) := by decide +kernel
theorem dL_state_7 : decode cL_state 7 = .ok (.i2l, 1) := by decide +kernel
theorem dL_state_8 : decode cL_state 8 = .ok (.lastore, 1) := by decide +kernel
theorem dL_state_9 : decode cL_state 9 = .ok (.goto 6, 3) := by decide +kernel
theorem dL_state_12 : decode cL_state 12 = .ok (.astore_n 3, 1) := by decide +kernel
theorem dL_state_13 : decode cL_state 13 = .ok (.iconst 1, 1) := by decide +kernel
theorem dL_state_14 : decode cL_state 14 = .ok (.ireturn, 1) := by decide +kernel
theorem dL_state_15 : decode cL_state 15 = .ok (.iconst 0, 1) := by decide +kernel
theorem dL_state_16 : decode cL_state 16 = .ok (.ireturn, 1) := by decide +kernel
theorem okL_state : okY yL_state 3 := ⟨by decide +kernel, by decide +kernel, by decide +kernel⟩
theorem tYL_state : Cond.codeWith yL_state cL_state 4 (some .int) [(0, 9, 12, 13)] ∈ W0 := W0_3 (i := 231) rfl rfl
set_option maxHeartbeats 1000000 in
theorem wl_state (l : Launch) (D : va_G) (cA : Nat → ClassId) (h ab ac ar : Nat → Nat) (hst : l.stackTraces = false) (a1 : Int32) {S : ivS} {z : Bool} {w : va_W} (hI : ivI cA h ab ac ar S z w) (o : Nat) (f : Nat → Int64) : ConY l D cA yL_state (wmW yL_state cL_state 4 (some .int) [(0, 9, 12, 13)]) { frames := 8, cells := 1, slots := 6, locals := 124 } (w ++ [(o, .inl (cA 5, 1, .inr (.inl f)))]) [.ref (h 0), .int a1, .ref o] 1 6 (PI (fun k w2 => ivL cA h ab ac ar o (s_state S a1) k w2)) := by
  obtain ⟨fs, t, hw⟩ := hI.hd
  refine ConY.of (by decide) (Nat.le_of_ble_eq_true rfl) ?_
  intro p e s m args below meth c C hE hT hr
  refine k_eq (ws' := w ++ [(o, .inl (cA 5, 1, .inr (.inl f)))]) (lv' := [(0, .ref (h 0)), (1, .int a1), (2, .ref o)]) (st' := []) rfl rfl rfl ?_
  refine k_aload_n C 2 (pc := 0) dL_state_0 rfl rfl ?_
  refine k_iconst C (pc := 1) (v := (0 : Int32)) dL_state_1 rfl ?_
  refine k_aload_n C 0 (pc := 2) dL_state_2 rfl rfl ?_
  refine k_iload_n C 1 (pc := 3) dL_state_3 rfl rfl ?_
  refine kx_onL C (pc := 4) (kx_runV C hE.1 (As := [.int a1]) (rest := [.int (0 : Int32), .ref o]) (ci := 6) (q0 := 0) (xi_state l D cA h ab ac ar hst a1 hI) ⟨k_cwB C tW_3_235 tW_3_232 tW_1_1 okX6_state rfl rfl ⟨Nat.le_of_ble_eq_true rfl, Nat.le_of_ble_eq_true rfl⟩, C.w tW_3_233, C.w tW_3_234⟩ (by rw [hw]; rfl) rfl rfl rfl rfl (Nat.le_of_ble_eq_true rfl) dL_state_4 ⟨Nat.le_of_ble_eq_true rfl, Nat.le_of_ble_eq_true rfl⟩) (fun v w1 h_ => by obtain ⟨r, rfl, h1⟩ := h_; exact h1.2.2.ad.trans hI.ad.symm) (fun E w1 h_ => by rcases h_ with ⟨-, h1⟩ <;> exact h1.2.ad.trans hI.ad.symm) (fun E w1 hx => ?_) (fun v w1 hv => ?_)
  · obtain ⟨rfl, h1, h2⟩ := hx
    refine ky_catch C (pc := 4) (pre := []) (suf := []) (0, 9, 12, 13) hT rfl (fun _ h_ => absurd h_ List.not_mem_nil) (by decide) (by decide) tW_3_10 (va_Nw.use rfl (hE.1.2.2.2.1 "java/lang/IllegalArgumentException" (List.mem_of_getElem? (i := 0) rfl))) (fun q_ => ?_)
    refine k_astore_n C (pc := 12) dL_state_12 rfl (Nat.lt_of_lt_of_le (Nat.lt_succ_self _) (Nat.le_of_ble_eq_true rfl)) (lv' := [(3, .ref q_), (0, .ref (h 0)), (1, .int a1), (2, .ref o)]) rfl ?_
    refine k_iconst C (pc := 13) (v := (1 : Int32)) dL_state_13 rfl ?_
    exact kx_iret C (pc := 14) hr dL_state_14 (Nat.le_of_ble_eq_true rfl) (Nat.le_of_ble_eq_true rfl) ⟨h1.symm, w1, f, rfl, h2, fun q => absurd (h1.symm.trans q) (by decide)⟩
  · obtain ⟨r, rfl, h1, h2, h3⟩ := hv
    refine k_eq (pc := 7) (ws' := w1 ++ [(o, .inl (cA 5, 1, .inr (.inl f)))]) (st' := [.int r, .int (0 : Int32), .ref o]) rfl rfl rfl ?_
    refine k_i2l C (pc := 7) (v := r.toInt64) dL_state_7 rfl ?_
    refine k_last C (pc := 8) w1.length (cc_get _ _) (vp_in_nI (n := 0) (by decide) (by decide)) (ws' := w1 ++ [(o, .inl (cA 5, 1, .inr (.inl (vp_updL f (0 : Int32).toNatClampNeg r.toInt64))))]) (cc_set _ _ _) dL_state_8 ?_
    refine k_goto C (pc := 9) (tgt := 15) dL_state_9 (by decide) ?_
    refine k_iconst C (pc := 15) (v := (0 : Int32)) dL_state_15 rfl ?_
    exact kx_iret C (pc := 16) hr dL_state_16 (Nat.le_of_ble_eq_true rfl) (Nat.le_of_ble_eq_true rfl) ⟨h1.symm, w1, _, rfl, h3, fun _ => congrArg Int32.toInt64 h2⟩

/-! paragraph -/
theorem dL_paragraph_0 : decode cL_paragraph 0 = .ok (.aload_n 3, 1) := by decide +kernel
theorem dL_paragraph_1 : decode cL_paragraph 1 = .ok (.iconst 0, 1) := by decide +kernel
theorem dL_paragraph_2 : decode cL_paragraph 2 = .ok (.aload_n 0, 1) := by decide +kernel
theorem dL_paragraph_3 : decode cL_paragraph 3 = .ok (.iload_n 1, 1) := by decide +kernel
theorem dL_paragraph_4 : decode cL_paragraph 4 = .ok (.iload_n 2, 1) := by decide +kernel
theorem dL_paragraph_5 : decode cL_paragraph 5 = .ok (.invokevirtual 18, 3) := by decide +kernel
theorem dL_paragraph_8 : decode cL_paragraph 8 = .ok (.i2l, 1) := by decide +kernel
theorem dL_paragraph_9 : decode cL_paragraph 9 = .ok (.lastore, 1) := by decide +kernel
theorem dL_paragraph_10 : decode cL_paragraph 10 = .ok (.goto 11, 3) := by decide +kernel
theorem dL_paragraph_13 : decode cL_paragraph 13 = .ok (.astore 4, 2) := by decide +kernel
theorem dL_paragraph_15 : decode cL_paragraph 15 = .ok (.iconst 1, 1) := by decide +kernel
theorem dL_paragraph_16 : decode cL_paragraph 16 = .ok (.ireturn, 1) := by decide +kernel
theorem dL_paragraph_17 : decode cL_paragraph 17 = .ok (.astore 4, 2) := by decide +kernel
theorem dL_paragraph_19 : decode cL_paragraph 19 = .ok (.iconst 2, 1) := by decide +kernel
theorem dL_paragraph_20 : decode cL_paragraph 20 = .ok (.ireturn, 1) := by decide +kernel
theorem dL_paragraph_21 : decode cL_paragraph 21 = .ok (.iconst 0, 1) := by decide +kernel
theorem dL_paragraph_22 : decode cL_paragraph 22 = .ok (.ireturn, 1) := by decide +kernel
theorem okL_paragraph : okY yL_paragraph 4 := ⟨by decide +kernel, by decide +kernel, by decide +kernel⟩
theorem tYL_paragraph : Cond.codeWith yL_paragraph cL_paragraph 5 (some .int) [(0, 10, 13, 22), (0, 10, 17, 13)] ∈ W0 := W0_4 (i := 2) rfl rfl
set_option maxHeartbeats 1000000 in
theorem wl_paragraph (l : Launch) (D : va_G) (cA : Nat → ClassId) (h ab ac ar : Nat → Nat) (hst : l.stackTraces = false) (a1 : Int32) (a2 : Int32) {S : ivS} {z : Bool} {w : va_W} (hI : ivI cA h ab ac ar S z w) (o : Nat) (f : Nat → Int64) : ConY l D cA yL_paragraph (wmW yL_paragraph cL_paragraph 5 (some .int) [(0, 10, 13, 22), (0, 10, 17, 13)]) { frames := 8, cells := 2, slots := 12, locals := 180 } (w ++ [(o, .inl (cA 5, 1, .inr (.inl f)))]) [.ref (h 0), .int a1, .int a2, .ref o] 2 12 (PI (fun k w2 => ivL cA h ab ac ar o (s_paragraph S a1 a2) k w2)) := by
  obtain ⟨fs, t, hw⟩ := hI.hd
  refine ConY.of (by decide) (Nat.le_of_ble_eq_true rfl) ?_
  intro p e s m args below meth c C hE hT hr
  refine k_eq (ws' := w ++ [(o, .inl (cA 5, 1, .inr (.inl f)))]) (lv' := [(0, .ref (h 0)), (1, .int a1), (2, .int a2), (3, .ref o)]) (st' := []) rfl rfl rfl ?_
  refine k_aload_n C 3 (pc := 0) dL_paragraph_0 rfl rfl ?_
  refine k_iconst C (pc := 1) (v := (0 : Int32)) dL_paragraph_1 rfl ?_
  refine k_aload_n C 0 (pc := 2) dL_paragraph_2 rfl rfl ?_
  refine k_iload_n C 1 (pc := 3) dL_paragraph_3 rfl rfl ?_
  refine k_iload_n C 2 (pc := 4) dL_paragraph_4 rfl rfl ?_
  refine kx_onL C (pc := 5) (kx_runV C hE.1 (As := [.int a1, .int a2]) (rest := [.int (0 : Int32), .ref o]) (ci := 6) (q0 := 0) (xi_paragraph l D cA h ab ac ar hst a1 a2 hI) ⟨k_cwB C tW_4_7 tW_4_4 tW_1_1 okX6_paragraph rfl rfl ⟨Nat.le_of_ble_eq_true rfl, Nat.le_of_ble_eq_true rfl⟩, C.w tW_4_5, C.w tW_4_6⟩ (by rw [hw]; rfl) rfl rfl rfl rfl (Nat.le_of_ble_eq_true rfl) dL_paragraph_5 ⟨Nat.le_of_ble_eq_true rfl, Nat.le_of_ble_eq_true rfl⟩) (fun v w1 h_ => by obtain ⟨r, rfl, h1⟩ := h_; exact h1.2.2.ad.trans hI.ad.symm) (fun E w1 h_ => by rcases h_ with ⟨-, h1⟩ | ⟨-, h1⟩ <;> exact h1.2.ad.trans hI.ad.symm) (fun E w1 hx => ?_) (fun v w1 hv => ?_)
  · rcases hx with ⟨rfl, h1, h2⟩ | ⟨rfl, h1, h2⟩
    · refine ky_catch C (pc := 5) (pre := []) (suf := [(0, 10, 17, 13)]) (0, 10, 13, 22) hT rfl (fun _ h_ => absurd h_ List.not_mem_nil) (by decide) (by decide) tW_4_3 (va_Nw.use rfl (hE.1.2.2.2.1 "java/lang/IndexOutOfBoundsException" (List.mem_of_getElem? (i := 1) rfl))) (fun q_ => ?_)
      refine k_astore C (pc := 13) dL_paragraph_13 (Nat.lt_of_lt_of_le (Nat.lt_succ_self _) (Nat.le_of_ble_eq_true rfl)) (lv' := [(4, .ref q_), (0, .ref (h 0)), (1, .int a1), (2, .int a2), (3, .ref o)]) rfl ?_
      refine k_iconst C (pc := 15) (v := (1 : Int32)) dL_paragraph_15 rfl ?_
      exact kx_iret C (pc := 16) hr dL_paragraph_16 (Nat.le_of_ble_eq_true rfl) (Nat.le_of_ble_eq_true rfl) ⟨h1.symm, w1, f, rfl, h2, fun q => absurd (h1.symm.trans q) (by decide)⟩
    · refine ky_catch C (pc := 5) (pre := [(0, 10, 13, 22)]) (suf := []) (0, 10, 17, 13) hT rfl (List.forall_mem_cons.mpr ⟨⟨by decide, "java/lang/IndexOutOfBoundsException", tW_4_3, hE.2 ("java/lang/IllegalArgumentException", "java/lang/IndexOutOfBoundsException") (List.mem_of_getElem? (i := 0) rfl)⟩, fun _ h_ => absurd h_ List.not_mem_nil⟩) (by decide) (by decide) tW_3_10 (va_Nw.use rfl (hE.1.2.2.2.1 "java/lang/IllegalArgumentException" (List.mem_of_getElem? (i := 0) rfl))) (fun q_ => ?_)
      refine k_astore C (pc := 17) dL_paragraph_17 (Nat.lt_of_lt_of_le (Nat.lt_succ_self _) (Nat.le_of_ble_eq_true rfl)) (lv' := [(4, .ref q_), (0, .ref (h 0)), (1, .int a1), (2, .int a2), (3, .ref o)]) rfl ?_
      refine k_iconst C (pc := 19) (v := (2 : Int32)) dL_paragraph_19 rfl ?_
      exact kx_iret C (pc := 20) hr dL_paragraph_20 (Nat.le_of_ble_eq_true rfl) (Nat.le_of_ble_eq_true rfl) ⟨h1.symm, w1, f, rfl, h2, fun q => absurd (h1.symm.trans q) (by decide)⟩
  · obtain ⟨r, rfl, h1, h2, h3⟩ := hv
    refine k_eq (pc := 8) (ws' := w1 ++ [(o, .inl (cA 5, 1, .inr (.inl f)))]) (st' := [.int r, .int (0 : Int32), .ref o]) rfl rfl rfl ?_
    refine k_i2l C (pc := 8) (v := r.toInt64) dL_paragraph_8 rfl ?_
    refine k_last C (pc := 9) w1.length (cc_get _ _) (vp_in_nI (n := 0) (by decide) (by decide)) (ws' := w1 ++ [(o, .inl (cA 5, 1, .inr (.inl (vp_updL f (0 : Int32).toNatClampNeg r.toInt64))))]) (cc_set _ _ _) dL_paragraph_9 ?_
    refine k_goto C (pc := 10) (tgt := 21) dL_paragraph_10 (by decide) ?_
    refine k_iconst C (pc := 21) (v := (0 : Int32)) dL_paragraph_21 rfl ?_
    exact kx_iret C (pc := 22) hr dL_paragraph_22 (Nat.le_of_ble_eq_true rfl) (Nat.le_of_ble_eq_true rfl) ⟨h1.symm, w1, _, rfl, h3, fun _ => congrArg Int32.toInt64 h2⟩

/-! word -/
theorem dL_word_0 : decode cL_word 0 = .ok (.aload_n 3, 1) := by decide +kernel
theorem dL_word_1 : decode cL_word 1 = .ok (.iconst 0, 1) := by decide +kernel
theorem dL_word_2 : decode cL_word 2 = .ok (.aload_n 0, 1) := by decide +kernel
theorem dL_word_3 : decode cL_word 3 = .ok (.iload_n 1, 1) := by decide +kernel
theorem dL_word_4 : decode cL_word 4 = .ok (.iload_n 2, 1) := by decide +kernel
theorem dL_word_5 : decode cL_word 5 = .ok (.invokevirtual 24, 3) := by decide +kernel
theorem dL_word_8 : decode cL_word 8 = .ok (.i2l, 1) := by decide +kernel
theorem dL_word_9 : decode cL_word 9 = .ok (.lastore, 1) := by decide +kernel
theorem dL_word_10 : decode cL_word 10 = .ok (.goto 11, 3) := by decide +kernel
theorem dL_word_13 : decode cL_word 13 = .ok (.astore 4, 2) := by decide +kernel
theorem dL_word_15 : decode cL_word 15 = .ok (.iconst 1, 1) := by decide +kernel
theorem dL_word_16 : decode cL_word 16 = .ok (.ireturn, 1) := by decide +kernel
theorem dL_word_17 : decode cL_word 17 = .ok (.astore 4, 2) := by decide +kernel
theorem dL_word_19 : decode cL_word 19 = .ok (.iconst 2, 1) := by decide +kernel
theorem dL_word_20 : decode cL_word 20 = .ok (.ireturn, 1) := by decide +kernel
theorem dL_word_21 : decode cL_word 21 = .ok (.iconst 0, 1) := by decide +kernel
theorem dL_word_22 : decode cL_word 22 = .ok (.ireturn, 1) := by decide +kernel
theorem okL_word : okY yL_word 4 := ⟨by decide +kernel, by decide +kernel, by decide +kernel⟩
theorem tYL_word : Cond.codeWith yL_word cL_word 5 (some .int) [(0, 10, 13, 22), (0, 10, 17, 27)] ∈ W0 := W0_4 (i := 30) rfl rfl
set_option maxHeartbeats 1000000 in
theorem wl_word (l : Launch) (D : va_G) (cA : Nat → ClassId) (h ab ac ar : Nat → Nat) (hst : l.stackTraces = false) (a1 : Int32) (a2 : Int32) {S : ivS} {z : Bool} {w : va_W} (hI : ivI cA h ab ac ar S z w) (o : Nat) (f : Nat → Int64) : ConY l D cA yL_word (wmW yL_word cL_word 5 (some .int) [(0, 10, 13, 22), (0, 10, 17, 27)]) { frames := 8, cells := 2, slots := 12, locals := 125 } (w ++ [(o, .inl (cA 5, 1, .inr (.inl f)))]) [.ref (h 0), .int a1, .int a2, .ref o] 2 12 (PI (fun k w2 => ivL cA h ab ac ar o (s_word S a1 a2) k w2)) := by
  obtain ⟨fs, t, hw⟩ := hI.hd
  refine ConY.of (by decide) (Nat.le_of_ble_eq_true rfl) ?_
  intro p e s m args below meth c C hE hT hr
  refine k_eq (ws' := w ++ [(o, .inl (cA 5, 1, .inr (.inl f)))]) (lv' := [(0, .ref (h 0)), (1, .int a1), (2, .int a2), (3, .ref o)]) (st' := []) rfl rfl rfl ?_
  refine k_aload_n C 3 (pc := 0) dL_word_0 rfl rfl ?_
  refine k_iconst C (pc := 1) (v := (0 : Int32)) dL_word_1 rfl ?_
  refine k_aload_n C 0 (pc := 2) dL_word_2 rfl rfl ?_
  refine k_iload_n C 1 (pc := 3) dL_word_3 rfl rfl ?_
  refine k_iload_n C 2 (pc := 4) dL_word_4 rfl rfl ?_
  refine kx_onL C (pc := 5) (kx_runV C hE.1 (As := [.int a1, .int a2]) (rest := [.int (0 : Int32), .ref o]) (ci := 6) (q0 := 0) (xi_word l D cA h ab ac ar hst a1 a2 hI) ⟨k_cwB C tW_4_35 tW_4_32 tW_1_1 okX6_word rfl rfl ⟨Nat.le_of_ble_eq_true rfl, Nat.le_of_ble_eq_true rfl⟩, C.w tW_4_33, C.w tW_4_34⟩ (by rw [hw]; rfl) rfl rfl rfl rfl (Nat.le_of_ble_eq_true rfl) dL_word_5 ⟨Nat.le_of_ble_eq_true rfl, Nat.le_of_ble_eq_true rfl⟩) (fun v w1 h_ => by obtain ⟨r, rfl, h1⟩ := h_; exact h1.2.2.ad.trans hI.ad.symm) (fun E w1 h_ => by rcases h_ with ⟨-, h1⟩ | ⟨-, h1⟩ <;> exact h1.2.ad.trans hI.ad.symm) (fun E w1 hx => ?_) (fun v w1 hv => ?_)
  · rcases hx with ⟨rfl, h1, h2⟩ | ⟨rfl, h1, h2⟩
    · refine ky_catch C (pc := 5) (pre := []) (suf := [(0, 10, 17, 27)]) (0, 10, 13, 22) hT rfl (fun _ h_ => absurd h_ List.not_mem_nil) (by decide) (by decide) tW_4_3 (va_Nw.use rfl (hE.1.2.2.2.1 "java/lang/IndexOutOfBoundsException" (List.mem_of_getElem? (i := 1) rfl))) (fun q_ => ?_)
      refine k_astore C (pc := 13) dL_word_13 (Nat.lt_of_lt_of_le (Nat.lt_succ_self _) (Nat.le_of_ble_eq_true rfl)) (lv' := [(4, .ref q_), (0, .ref (h 0)), (1, .int a1), (2, .int a2), (3, .ref o)]) rfl ?_
      refine k_iconst C (pc := 15) (v := (1 : Int32)) dL_word_15 rfl ?_
      exact kx_iret C (pc := 16) hr dL_word_16 (Nat.le_of_ble_eq_true rfl) (Nat.le_of_ble_eq_true rfl) ⟨h1.symm, w1, f, rfl, h2, fun q => absurd (h1.symm.trans q) (by decide)⟩
    · refine ky_catch C (pc := 5) (pre := [(0, 10, 13, 22)]) (suf := []) (0, 10, 17, 27) hT rfl (List.forall_mem_cons.mpr ⟨⟨by decide, "java/lang/IndexOutOfBoundsException", tW_4_3, hE.2 ("java/util/NoSuchElementException", "java/lang/IndexOutOfBoundsException") (List.mem_of_getElem? (i := 1) rfl)⟩, fun _ h_ => absurd h_ List.not_mem_nil⟩) (by decide) (by decide) tW_4_31 (va_Nw.use rfl (hE.1.2.2.2.1 "java/util/NoSuchElementException" (List.mem_of_getElem? (i := 2) rfl))) (fun q_ => ?_)
      refine k_astore C (pc := 17) dL_word_17 (Nat.lt_of_lt_of_le (Nat.lt_succ_self _) (Nat.le_of_ble_eq_true rfl)) (lv' := [(4, .ref q_), (0, .ref (h 0)), (1, .int a1), (2, .int a2), (3, .ref o)]) rfl ?_
      refine k_iconst C (pc := 19) (v := (2 : Int32)) dL_word_19 rfl ?_
      exact kx_iret C (pc := 20) hr dL_word_20 (Nat.le_of_ble_eq_true rfl) (Nat.le_of_ble_eq_true rfl) ⟨h1.symm, w1, f, rfl, h2, fun q => absurd (h1.symm.trans q) (by decide)⟩
  · obtain ⟨r, rfl, h1, h2, h3⟩ := hv
    refine k_eq (pc := 8) (ws' := w1 ++ [(o, .inl (cA 5, 1, .inr (.inl f)))]) (st' := [.int r, .int (0 : Int32), .ref o]) rfl rfl rfl ?_
    refine k_i2l C (pc := 8) (v := r.toInt64) dL_word_8 rfl ?_
    refine k_last C (pc := 9) w1.length (cc_get _ _) (vp_in_nI (n := 0) (by decide) (by decide)) (ws' := w1 ++ [(o, .inl (cA 5, 1, .inr (.inl (vp_updL f (0 : Int32).toNatClampNeg r.toInt64))))]) (cc_set _ _ _) dL_word_9 ?_
    refine k_goto C (pc := 10) (tgt := 21) dL_word_10 (by decide) ?_
    refine k_iconst C (pc := 21) (v := (0 : Int32)) dL_word_21 rfl ?_
    exact kx_iret C (pc := 22) hr dL_word_22 (Nat.le_of_ble_eq_true rfl) (Nat.le_of_ble_eq_true rfl) ⟨h1.symm, w1, _, rfl, h3, fun _ => congrArg Int32.toInt64 h2⟩

/-! lineLength -/
theorem dL_lineLength_0 : decode cL_lineLength 0 = .ok (.aload 4, 2) := by decide +kernel
theorem dL_lineLength_2 : decode cL_lineLength 2 = .ok (.iconst 0, 1) := by decide +kernel
theorem dL_lineLength_3 : decode cL_lineLength 3 = .ok (.aload_n 0, 1) := by decide +kernel
theorem dL_lineLength_4 : decode cL_lineLength 4 = .ok (.iload_n 1, 1) := by decide +kernel
theorem dL_lineLength_5 : decode cL_lineLength 5 = .ok (.iload_n 2, 1) := by decide +kernel
theorem dL_lineLength_6 : decode cL_lineLength 6 = .ok (.iload_n 3, 1) := by decide +kernel
theorem dL_lineLength_7 : decode cL_lineLength 7 = .ok (.invokevirtual 29, 3) := by decide +kernel
theorem dL_lineLength_10 : decode cL_lineLength 10 = .ok (.i2l, 1) := by decide +kernel
theorem dL_lineLength_11 : decode cL_lineLength 11 = .ok (.lastore, 1) := by decide +kernel
theorem dL_lineLength_12 : decode cL_lineLength 12 = .ok (.goto 15, 3) := by decide +kernel
theorem dL_lineLength_15 : decode cL_lineLength 15 = .ok (.astore 5, 2) := by decide +kernel
theorem dL_lineLength_17 : decode cL_lineLength 17 = .ok (.iconst 1, 1) := by decide +kernel
theorem dL_lineLength_18 : decode cL_lineLength 18 = .ok (.ireturn, 1) := by decide +kernel
theorem dL_lineLength_19 : decode cL_lineLength 19 = .ok (.astore 5, 2) := by decide +kernel
theorem dL_lineLength_21 : decode cL_lineLength 21 = .ok (.iconst 2, 1) := by decide +kernel
theorem dL_lineLength_22 : decode cL_lineLength 22 = .ok (.ireturn, 1) := by decide +kernel
theorem dL_lineLength_23 : decode cL_lineLength 23 = .ok (.astore 5, 2) := by decide +kernel
theorem dL_lineLength_25 : decode cL_lineLength 25 = .ok (.iconst 3, 1) := by decide +kernel
theorem dL_lineLength_26 : decode cL_lineLength 26 = .ok (.ireturn, 1) := by decide +kernel
theorem dL_lineLength_27 : decode cL_lineLength 27 = .ok (.iconst 0, 1) := by decide +kernel
theorem dL_lineLength_28 : decode cL_lineLength 28 = .ok (.ireturn, 1) := by decide +kernel
theorem okL_lineLength : okY yL_lineLength 5 := ⟨by decide +kernel, by decide +kernel, by decide +kernel⟩
theorem tYL_lineLength : Cond.codeWith yL_lineLength cL_lineLength 6 (some .int) [(0, 12, 15, 22), (0, 12, 19, 13), (0, 12, 23, 27)] ∈ W0 := W0_4 (i := 55) rfl rfl
set_option maxHeartbeats 1000000 in
theorem wl_lineLength (l : Launch) (D : va_G) (cA : Nat → ClassId) (h ab ac ar : Nat → Nat) (hst : l.stackTraces = false) (a1 : Int32) (a2 : Int32) (a3 : Int32) {S : ivS} {z : Bool} {w : va_W} (hI : ivI cA h ab ac ar S z w) (o : Nat) (f : Nat → Int64) : ConY l D cA yL_lineLength (wmW yL_lineLength cL_lineLength 6 (some .int) [(0, 12, 15, 22), (0, 12, 19, 13), (0, 12, 23, 27)]) { frames := 8, cells := 2, slots := 12, locals := 126 } (w ++ [(o, .inl (cA 5, 1, .inr (.inl f)))]) [.ref (h 0), .int a1, .int a2, .int a3, .ref o] 2 12 (PI (fun k w2 => ivL cA h ab ac ar o (s_lineLength S a1 a2 a3) k w2)) := by
  obtain ⟨fs, t, hw⟩ := hI.hd
  refine ConY.of (by decide) (Nat.le_of_ble_eq_true rfl) ?_
  intro p e s m args below meth c C hE hT hr
  refine k_eq (ws' := w ++ [(o, .inl (cA 5, 1, .inr (.inl f)))]) (lv' := [(0, .ref (h 0)), (1, .int a1), (2, .int a2), (3, .int a3), (4, .ref o)]) (st' := []) rfl rfl rfl ?_
  refine k_aload C 4 (pc := 0) dL_lineLength_0 rfl ?_
  refine k_iconst C (pc := 2) (v := (0 : Int32)) dL_lineLength_2 rfl ?_
  refine k_aload_n C 0 (pc := 3) dL_lineLength_3 rfl rfl ?_
  refine k_iload_n C 1 (pc := 4) dL_lineLength_4 rfl rfl ?_
  refine k_iload_n C 2 (pc := 5) dL_lineLength_5 rfl rfl ?_
  refine k_iload_n C 3 (pc := 6) dL_lineLength_6 rfl rfl ?_
  refine kx_onL C (pc := 7) (kx_runV C hE.1 (As := [.int a1, .int a2, .int a3]) (rest := [.int (0 : Int32), .ref o]) (ci := 6) (q0 := 0) (xi_lineLength l D cA h ab ac ar hst a1 a2 a3 hI) ⟨k_cwB C tW_4_59 tW_4_56 tW_1_1 okX6_lineLength rfl rfl ⟨Nat.le_of_ble_eq_true rfl, Nat.le_of_ble_eq_true rfl⟩, C.w tW_4_57, C.w tW_4_58⟩ (by rw [hw]; rfl) rfl rfl rfl rfl (Nat.le_of_ble_eq_true rfl) dL_lineLength_7 ⟨Nat.le_of_ble_eq_true rfl, Nat.le_of_ble_eq_true rfl⟩) (fun v w1 h_ => by obtain ⟨r, rfl, h1⟩ := h_; exact h1.2.2.ad.trans hI.ad.symm) (fun E w1 h_ => by rcases h_ with ⟨-, h1⟩ | ⟨-, h1⟩ | ⟨-, h1⟩ <;> exact h1.2.ad.trans hI.ad.symm) (fun E w1 hx => ?_) (fun v w1 hv => ?_)
  · rcases hx with ⟨rfl, h1, h2⟩ | ⟨rfl, h1, h2⟩ | ⟨rfl, h1, h2⟩
    · refine ky_catch C (pc := 7) (pre := []) (suf := [(0, 12, 19, 13), (0, 12, 23, 27)]) (0, 12, 15, 22) hT rfl (fun _ h_ => absurd h_ List.not_mem_nil) (by decide) (by decide) tW_4_3 (va_Nw.use rfl (hE.1.2.2.2.1 "java/lang/IndexOutOfBoundsException" (List.mem_of_getElem? (i := 1) rfl))) (fun q_ => ?_)
      refine k_astore C (pc := 15) dL_lineLength_15 (Nat.lt_of_lt_of_le (Nat.lt_succ_self _) (Nat.le_of_ble_eq_true rfl)) (lv' := [(5, .ref q_), (0, .ref (h 0)), (1, .int a1), (2, .int a2), (3, .int a3), (4, .ref o)]) rfl ?_
      refine k_iconst C (pc := 17) (v := (1 : Int32)) dL_lineLength_17 rfl ?_
      exact kx_iret C (pc := 18) hr dL_lineLength_18 (Nat.le_of_ble_eq_true rfl) (Nat.le_of_ble_eq_true rfl) ⟨h1.symm, w1, f, rfl, h2, fun q => absurd (h1.symm.trans q) (by decide)⟩
    · refine ky_catch C (pc := 7) (pre := [(0, 12, 15, 22)]) (suf := [(0, 12, 23, 27)]) (0, 12, 19, 13) hT rfl (List.forall_mem_cons.mpr ⟨⟨by decide, "java/lang/IndexOutOfBoundsException", tW_4_3, hE.2 ("java/lang/IllegalArgumentException", "java/lang/IndexOutOfBoundsException") (List.mem_of_getElem? (i := 0) rfl)⟩, fun _ h_ => absurd h_ List.not_mem_nil⟩) (by decide) (by decide) tW_3_10 (va_Nw.use rfl (hE.1.2.2.2.1 "java/lang/IllegalArgumentException" (List.mem_of_getElem? (i := 0) rfl))) (fun q_ => ?_)
      refine k_astore C (pc := 19) dL_lineLength_19 (Nat.lt_of_lt_of_le (Nat.lt_succ_self _) (Nat.le_of_ble_eq_true rfl)) (lv' := [(5, .ref q_), (0, .ref (h 0)), (1, .int a1), (2, .int a2), (3, .int a3), (4, .ref o)]) rfl ?_
      refine k_iconst C (pc := 21) (v := (2 : Int32)) dL_lineLength_21 rfl ?_
      exact kx_iret C (pc := 22) hr dL_lineLength_22 (Nat.le_of_ble_eq_true rfl) (Nat.le_of_ble_eq_true rfl) ⟨h1.symm, w1, f, rfl, h2, fun q => absurd (h1.symm.trans q) (by decide)⟩
    · refine ky_catch C (pc := 7) (pre := [(0, 12, 15, 22), (0, 12, 19, 13)]) (suf := []) (0, 12, 23, 27) hT rfl (List.forall_mem_cons.mpr ⟨⟨by decide, "java/lang/IndexOutOfBoundsException", tW_4_3, hE.2 ("java/util/NoSuchElementException", "java/lang/IndexOutOfBoundsException") (List.mem_of_getElem? (i := 1) rfl)⟩, List.forall_mem_cons.mpr ⟨⟨by decide, "java/lang/IllegalArgumentException", tW_3_10, hE.2 ("java/util/NoSuchElementException", "java/lang/IllegalArgumentException") (List.mem_of_getElem? (i := 2) rfl)⟩, fun _ h_ => absurd h_ List.not_mem_nil⟩⟩) (by decide) (by decide) tW_4_31 (va_Nw.use rfl (hE.1.2.2.2.1 "java/util/NoSuchElementException" (List.mem_of_getElem? (i := 2) rfl))) (fun q_ => ?_)
      refine k_astore C (pc := 23) dL_lineLength_23 (Nat.lt_of_lt_of_le (Nat.lt_succ_self _) (Nat.le_of_ble_eq_true rfl)) (lv' := [(5, .ref q_), (0, .ref (h 0)), (1, .int a1), (2, .int a2), (3, .int a3), (4, .ref o)]) rfl ?_
      refine k_iconst C (pc := 25) (v := (3 : Int32)) dL_lineLength_25 rfl ?_
      exact kx_iret C (pc := 26) hr dL_lineLength_26 (Nat.le_of_ble_eq_true rfl) (Nat.le_of_ble_eq_true rfl) ⟨h1.symm, w1, f, rfl, h2, fun q => absurd (h1.symm.trans q) (by decide)⟩
  · obtain ⟨r, rfl, h1, h2, h3⟩ := hv
    refine k_eq (pc := 10) (ws' := w1 ++ [(o, .inl (cA 5, 1, .inr (.inl f)))]) (st' := [.int r, .int (0 : Int32), .ref o]) rfl rfl rfl ?_
    refine k_i2l C (pc := 10) (v := r.toInt64) dL_lineLength_10 rfl ?_
    refine k_last C (pc := 11) w1.length (cc_get _ _) (vp_in_nI (n := 0) (by decide) (by decide)) (ws' := w1 ++ [(o, .inl (cA 5, 1, .inr (.inl (vp_updL f (0 : Int32).toNatClampNeg r.toInt64))))]) (cc_set _ _ _) dL_lineLength_11 ?_
    refine k_goto C (pc := 12) (tgt := 27) dL_lineLength_12 (by decide) ?_
    refine k_iconst C (pc := 27) (v := (0 : Int32)) dL_lineLength_27 rfl ?_
    exact kx_iret C (pc := 28) hr dL_lineLength_28 (Nat.le_of_ble_eq_true rfl) (Nat.le_of_ble_eq_true rfl) ⟨h1.symm, w1, _, rfl, h3, fun _ => congrArg Int32.toInt64 h2⟩

/-! plan -/
theorem dL_plan_0 : decode cL_plan 0 = .ok (.aload_n 3, 1) := by decide +kernel
theorem dL_plan_1 : decode cL_plan 1 = .ok (.iconst 0, 1) := by decide +kernel
theorem dL_plan_2 : decode cL_plan 2 = .ok (.aload_n 0, 1) := by decide +kernel
theorem dL_plan_3 : decode cL_plan 3 = .ok (.iload_n 1, 1) := by decide +kernel
theorem dL_plan_4 : decode cL_plan 4 = .ok (.iload_n 2, 1) := by decide +kernel
theorem dL_plan_5 : decode cL_plan 5 = .ok (.invokevirtual 33, 3) := by decide +kernel
theorem dL_plan_8 : decode cL_plan 8 = .ok (.i2l, 1) := by decide +kernel
theorem dL_plan_9 : decode cL_plan 9 = .ok (.lastore, 1) := by decide +kernel
theorem dL_plan_10 : decode cL_plan 10 = .ok (.goto 7, 3) := by decide +kernel
theorem dL_plan_13 : decode cL_plan 13 = .ok (.astore 4, 2) := by decide +kernel
theorem dL_plan_15 : decode cL_plan 15 = .ok (.iconst 1, 1) := by decide +kernel
theorem dL_plan_16 : decode cL_plan 16 = .ok (.ireturn, 1) := by decide +kernel
theorem dL_plan_17 : decode cL_plan 17 = .ok (.iconst 0, 1) := by decide +kernel
theorem dL_plan_18 : decode cL_plan 18 = .ok (.ireturn, 1) := by decide +kernel
theorem okL_plan : okY yL_plan 4 := ⟨by decide +kernel, by decide +kernel, by decide +kernel⟩
theorem tYL_plan : Cond.codeWith yL_plan cL_plan 5 (some .int) [(0, 10, 13, 13)] ∈ W0 := W0_4 (i := 68) rfl rfl
set_option maxHeartbeats 1000000 in
theorem wl_plan (l : Launch) (D : va_G) (cA : Nat → ClassId) (h ab ac ar : Nat → Nat) (hst : l.stackTraces = false) (b1 : Bool) (a2 : Int32) {S : ivS} {z : Bool} {w : va_W} (hI : ivI cA h ab ac ar S z w) (o : Nat) (f : Nat → Int64) : ConY l D cA yL_plan (wmW yL_plan cL_plan 5 (some .int) [(0, 10, 13, 13)]) { frames := 8, cells := 1, slots := 6, locals := 180 } (w ++ [(o, .inl (cA 5, 1, .inr (.inl f)))]) [.ref (h 0), .int (bI b1), .int a2, .ref o] 1 6 (PI (fun k w2 => ivL cA h ab ac ar o (s_plan S b1 a2) k w2)) := by
  obtain ⟨fs, t, hw⟩ := hI.hd
  refine ConY.of (by decide) (Nat.le_of_ble_eq_true rfl) ?_
  intro p e s m args below meth c C hE hT hr
  refine k_eq (ws' := w ++ [(o, .inl (cA 5, 1, .inr (.inl f)))]) (lv' := [(0, .ref (h 0)), (1, .int (bI b1)), (2, .int a2), (3, .ref o)]) (st' := []) rfl rfl rfl ?_
  refine k_aload_n C 3 (pc := 0) dL_plan_0 rfl rfl ?_
  refine k_iconst C (pc := 1) (v := (0 : Int32)) dL_plan_1 rfl ?_
  refine k_aload_n C 0 (pc := 2) dL_plan_2 rfl rfl ?_
  refine k_iload_n C 1 (pc := 3) dL_plan_3 rfl rfl ?_
  refine k_iload_n C 2 (pc := 4) dL_plan_4 rfl rfl ?_
  refine kx_onL C (pc := 5) (kx_runV C hE.1 (As := [.int (bI b1), .int a2]) (rest := [.int (0 : Int32), .ref o]) (ci := 6) (q0 := 0) (xi_plan l D cA h ab ac ar hst b1 a2 hI) ⟨k_cwB C tW_4_72 tW_4_69 tW_1_1 okX6_plan rfl rfl ⟨Nat.le_of_ble_eq_true rfl, Nat.le_of_ble_eq_true rfl⟩, C.w tW_4_70, C.w tW_4_71⟩ (by rw [hw]; rfl) rfl rfl rfl rfl (Nat.le_of_ble_eq_true rfl) dL_plan_5 ⟨Nat.le_of_ble_eq_true rfl, Nat.le_of_ble_eq_true rfl⟩) (fun v w1 h_ => by obtain ⟨r, rfl, h1⟩ := h_; exact h1.2.2.ad.trans hI.ad.symm) (fun E w1 h_ => by rcases h_ with ⟨-, h1⟩ <;> exact h1.2.ad.trans hI.ad.symm) (fun E w1 hx => ?_) (fun v w1 hv => ?_)
  · obtain ⟨rfl, h1, h2⟩ := hx
    refine ky_catch C (pc := 5) (pre := []) (suf := []) (0, 10, 13, 13) hT rfl (fun _ h_ => absurd h_ List.not_mem_nil) (by decide) (by decide) tW_3_10 (va_Nw.use rfl (hE.1.2.2.2.1 "java/lang/IllegalArgumentException" (List.mem_of_getElem? (i := 0) rfl))) (fun q_ => ?_)
    refine k_astore C (pc := 13) dL_plan_13 (Nat.lt_of_lt_of_le (Nat.lt_succ_self _) (Nat.le_of_ble_eq_true rfl)) (lv' := [(4, .ref q_), (0, .ref (h 0)), (1, .int (bI b1)), (2, .int a2), (3, .ref o)]) rfl ?_
    refine k_iconst C (pc := 15) (v := (1 : Int32)) dL_plan_15 rfl ?_
    exact kx_iret C (pc := 16) hr dL_plan_16 (Nat.le_of_ble_eq_true rfl) (Nat.le_of_ble_eq_true rfl) ⟨h1.symm, w1, f, rfl, h2, fun q => absurd (h1.symm.trans q) (by decide)⟩
  · obtain ⟨r, rfl, h1, h2, h3⟩ := hv
    refine k_eq (pc := 8) (ws' := w1 ++ [(o, .inl (cA 5, 1, .inr (.inl f)))]) (st' := [.int r, .int (0 : Int32), .ref o]) rfl rfl rfl ?_
    refine k_i2l C (pc := 8) (v := r.toInt64) dL_plan_8 rfl ?_
    refine k_last C (pc := 9) w1.length (cc_get _ _) (vp_in_nI (n := 0) (by decide) (by decide)) (ws' := w1 ++ [(o, .inl (cA 5, 1, .inr (.inl (vp_updL f (0 : Int32).toNatClampNeg r.toInt64))))]) (cc_set _ _ _) dL_plan_9 ?_
    refine k_goto C (pc := 10) (tgt := 17) dL_plan_10 (by decide) ?_
    refine k_iconst C (pc := 17) (v := (0 : Int32)) dL_plan_17 rfl ?_
    exact kx_iret C (pc := 18) hr dL_plan_18 (Nat.le_of_ble_eq_true rfl) (Nat.le_of_ble_eq_true rfl) ⟨h1.symm, w1, _, rfl, h3, fun _ => congrArg Int32.toInt64 h2⟩

/-! page -/
theorem dL_page_0 : decode cL_page 0 = .ok (.aload 4, 2) := by decide +kernel
theorem dL_page_2 : decode cL_page 2 = .ok (.iconst 0, 1) := by decide +kernel
theorem dL_page_3 : decode cL_page 3 = .ok (.aload_n 0, 1) := by decide +kernel
theorem dL_page_4 : decode cL_page 4 = .ok (.iload_n 1, 1) := by decide +kernel
theorem dL_page_5 : decode cL_page 5 = .ok (.iload_n 2, 1) := by decide +kernel
theorem dL_page_6 : decode cL_page 6 = .ok (.iload_n 3, 1) := by decide +kernel
theorem dL_page_7 : decode cL_page 7 = .ok (.invokevirtual 37, 3) := by decide +kernel
theorem dL_page_10 : decode cL_page 10 = .ok (.i2l, 1) := by decide +kernel
theorem dL_page_11 : decode cL_page 11 = .ok (.lastore, 1) := by decide +kernel
theorem dL_page_12 : decode cL_page 12 = .ok (.goto 11, 3) := by decide +kernel
theorem dL_page_15 : decode cL_page 15 = .ok (.astore 5, 2) := by decide +kernel
theorem dL_page_17 : decode cL_page 17 = .ok (.iconst 1, 1) := by decide +kernel
theorem dL_page_18 : decode cL_page 18 = .ok (.ireturn, 1) := by decide +kernel
theorem dL_page_19 : decode cL_page 19 = .ok (.astore 5, 2) := by decide +kernel
theorem dL_page_21 : decode cL_page 21 = .ok (.iconst 2, 1) := by decide +kernel
theorem dL_page_22 : decode cL_page 22 = .ok (.ireturn, 1) := by decide +kernel
theorem dL_page_23 : decode cL_page 23 = .ok (.iconst 0, 1) := by decide +kernel
theorem dL_page_24 : decode cL_page 24 = .ok (.ireturn, 1) := by decide +kernel
theorem okL_page : okY yL_page 5 := ⟨by decide +kernel, by decide +kernel, by decide +kernel⟩
theorem tYL_page : Cond.codeWith yL_page cL_page 6 (some .int) [(0, 12, 15, 22), (0, 12, 19, 13)] ∈ W0 := W0_4 (i := 75) rfl rfl
set_option maxHeartbeats 1000000 in
theorem wl_page (l : Launch) (D : va_G) (cA : Nat → ClassId) (h ab ac ar : Nat → Nat) (hst : l.stackTraces = false) (b1 : Bool) (a2 : Int32) (a3 : Int32) {S : ivS} {z : Bool} {w : va_W} (hI : ivI cA h ab ac ar S z w) (o : Nat) (f : Nat → Int64) : ConY l D cA yL_page (wmW yL_page cL_page 6 (some .int) [(0, 12, 15, 22), (0, 12, 19, 13)]) { frames := 8, cells := 2, slots := 12, locals := 182 } (w ++ [(o, .inl (cA 5, 1, .inr (.inl f)))]) [.ref (h 0), .int (bI b1), .int a2, .int a3, .ref o] 2 12 (PI (fun k w2 => ivL cA h ab ac ar o (s_page S b1 a2 a3) k w2)) := by
  obtain ⟨fs, t, hw⟩ := hI.hd
  refine ConY.of (by decide) (Nat.le_of_ble_eq_true rfl) ?_
  intro p e s m args below meth c C hE hT hr
  refine k_eq (ws' := w ++ [(o, .inl (cA 5, 1, .inr (.inl f)))]) (lv' := [(0, .ref (h 0)), (1, .int (bI b1)), (2, .int a2), (3, .int a3), (4, .ref o)]) (st' := []) rfl rfl rfl ?_
  refine k_aload C 4 (pc := 0) dL_page_0 rfl ?_
  refine k_iconst C (pc := 2) (v := (0 : Int32)) dL_page_2 rfl ?_
  refine k_aload_n C 0 (pc := 3) dL_page_3 rfl rfl ?_
  refine k_iload_n C 1 (pc := 4) dL_page_4 rfl rfl ?_
  refine k_iload_n C 2 (pc := 5) dL_page_5 rfl rfl ?_
  refine k_iload_n C 3 (pc := 6) dL_page_6 rfl rfl ?_
  refine kx_onL C (pc := 7) (kx_runV C hE.1 (As := [.int (bI b1), .int a2, .int a3]) (rest := [.int (0 : Int32), .ref o]) (ci := 6) (q0 := 0) (xi_page l D cA h ab ac ar hst b1 a2 a3 hI) ⟨k_cwB C tW_4_79 tW_4_76 tW_1_1 okX6_page rfl rfl ⟨Nat.le_of_ble_eq_true rfl, Nat.le_of_ble_eq_true rfl⟩, C.w tW_4_77, C.w tW_4_78⟩ (by rw [hw]; rfl) rfl rfl rfl rfl (Nat.le_of_ble_eq_true rfl) dL_page_7 ⟨Nat.le_of_ble_eq_true rfl, Nat.le_of_ble_eq_true rfl⟩) (fun v w1 h_ => by obtain ⟨r, rfl, h1⟩ := h_; exact h1.2.2.ad.trans hI.ad.symm) (fun E w1 h_ => by rcases h_ with ⟨-, h1⟩ | ⟨-, h1⟩ <;> exact h1.2.ad.trans hI.ad.symm) (fun E w1 hx => ?_) (fun v w1 hv => ?_)
  · rcases hx with ⟨rfl, h1, h2⟩ | ⟨rfl, h1, h2⟩
    · refine ky_catch C (pc := 7) (pre := []) (suf := [(0, 12, 19, 13)]) (0, 12, 15, 22) hT rfl (fun _ h_ => absurd h_ List.not_mem_nil) (by decide) (by decide) tW_4_3 (va_Nw.use rfl (hE.1.2.2.2.1 "java/lang/IndexOutOfBoundsException" (List.mem_of_getElem? (i := 1) rfl))) (fun q_ => ?_)
      refine k_astore C (pc := 15) dL_page_15 (Nat.lt_of_lt_of_le (Nat.lt_succ_self _) (Nat.le_of_ble_eq_true rfl)) (lv' := [(5, .ref q_), (0, .ref (h 0)), (1, .int (bI b1)), (2, .int a2), (3, .int a3), (4, .ref o)]) rfl ?_
      refine k_iconst C (pc := 17) (v := (1 : Int32)) dL_page_17 rfl ?_
      exact kx_iret C (pc := 18) hr dL_page_18 (Nat.le_of_ble_eq_true rfl) (Nat.le_of_ble_eq_true rfl) ⟨h1.symm, w1, f, rfl, h2, fun q => absurd (h1.symm.trans q) (by decide)⟩
    · refine ky_catch C (pc := 7) (pre := [(0, 12, 15, 22)]) (suf := []) (0, 12, 19, 13) hT rfl (List.forall_mem_cons.mpr ⟨⟨by decide, "java/lang/IndexOutOfBoundsException", tW_4_3, hE.2 ("java/lang/IllegalArgumentException", "java/lang/IndexOutOfBoundsException") (List.mem_of_getElem? (i := 0) rfl)⟩, fun _ h_ => absurd h_ List.not_mem_nil⟩) (by decide) (by decide) tW_3_10 (va_Nw.use rfl (hE.1.2.2.2.1 "java/lang/IllegalArgumentException" (List.mem_of_getElem? (i := 0) rfl))) (fun q_ => ?_)
      refine k_astore C (pc := 19) dL_page_19 (Nat.lt_of_lt_of_le (Nat.lt_succ_self _) (Nat.le_of_ble_eq_true rfl)) (lv' := [(5, .ref q_), (0, .ref (h 0)), (1, .int (bI b1)), (2, .int a2), (3, .int a3), (4, .ref o)]) rfl ?_
      refine k_iconst C (pc := 21) (v := (2 : Int32)) dL_page_21 rfl ?_
      exact kx_iret C (pc := 22) hr dL_page_22 (Nat.le_of_ble_eq_true rfl) (Nat.le_of_ble_eq_true rfl) ⟨h1.symm, w1, f, rfl, h2, fun q => absurd (h1.symm.trans q) (by decide)⟩
  · obtain ⟨r, rfl, h1, h2, h3⟩ := hv
    refine k_eq (pc := 10) (ws' := w1 ++ [(o, .inl (cA 5, 1, .inr (.inl f)))]) (st' := [.int r, .int (0 : Int32), .ref o]) rfl rfl rfl ?_
    refine k_i2l C (pc := 10) (v := r.toInt64) dL_page_10 rfl ?_
    refine k_last C (pc := 11) w1.length (cc_get _ _) (vp_in_nI (n := 0) (by decide) (by decide)) (ws' := w1 ++ [(o, .inl (cA 5, 1, .inr (.inl (vp_updL f (0 : Int32).toNatClampNeg r.toInt64))))]) (cc_set _ _ _) dL_page_11 ?_
    refine k_goto C (pc := 12) (tgt := 23) dL_page_12 (by decide) ?_
    refine k_iconst C (pc := 23) (v := (0 : Int32)) dL_page_23 rfl ?_
    exact kx_iret C (pc := 24) hr dL_page_24 (Nat.le_of_ble_eq_true rfl) (Nat.le_of_ble_eq_true rfl) ⟨h1.symm, w1, _, rfl, h3, fun _ => congrArg Int32.toInt64 h2⟩

/-! pageOf -/
theorem dL_pageOf_0 : decode cL_pageOf 0 = .ok (.aload 4, 2) := by decide +kernel
theorem dL_pageOf_2 : decode cL_pageOf 2 = .ok (.iconst 0, 1) := by decide +kernel
theorem dL_pageOf_3 : decode cL_pageOf 3 = .ok (.aload_n 0, 1) := by decide +kernel
theorem dL_pageOf_4 : decode cL_pageOf 4 = .ok (.iload_n 1, 1) := by decide +kernel
theorem dL_pageOf_5 : decode cL_pageOf 5 = .ok (.iload_n 2, 1) := by decide +kernel
theorem dL_pageOf_6 : decode cL_pageOf 6 = .ok (.iload_n 3, 1) := by decide +kernel
theorem dL_pageOf_7 : decode cL_pageOf 7 = .ok (.invokevirtual 41, 3) := by decide +kernel
theorem dL_pageOf_10 : decode cL_pageOf 10 = .ok (.i2l, 1) := by decide +kernel
theorem dL_pageOf_11 : decode cL_pageOf 11 = .ok (.lastore, 1) := by decide +kernel
theorem dL_pageOf_12 : decode cL_pageOf 12 = .ok (.goto 11, 3) := by decide +kernel
theorem dL_pageOf_15 : decode cL_pageOf 15 = .ok (.astore 5, 2) := by decide +kernel
theorem dL_pageOf_17 : decode cL_pageOf 17 = .ok (.iconst 1, 1) := by decide +kernel
theorem dL_pageOf_18 : decode cL_pageOf 18 = .ok (.ireturn, 1) := by decide +kernel
theorem dL_pageOf_19 : decode cL_pageOf 19 = .ok (.astore 5, 2) := by decide +kernel
theorem dL_pageOf_21 : decode cL_pageOf 21 = .ok (.iconst 2, 1) := by decide +kernel
theorem dL_pageOf_22 : decode cL_pageOf 22 = .ok (.ireturn, 1) := by decide +kernel
theorem dL_pageOf_23 : decode cL_pageOf 23 = .ok (.iconst 0, 1) := by decide +kernel
theorem dL_pageOf_24 : decode cL_pageOf 24 = .ok (.ireturn, 1) := by decide +kernel
theorem okL_pageOf : okY yL_pageOf 5 := ⟨by decide +kernel, by decide +kernel, by decide +kernel⟩
theorem tYL_pageOf : Cond.codeWith yL_pageOf cL_pageOf 6 (some .int) [(0, 12, 15, 22), (0, 12, 19, 27)] ∈ W0 := W0_4 (i := 86) rfl rfl
set_option maxHeartbeats 1000000 in
theorem wl_pageOf (l : Launch) (D : va_G) (cA : Nat → ClassId) (h ab ac ar : Nat → Nat) (hst : l.stackTraces = false) (b1 : Bool) (a2 : Int32) (a3 : Int32) {S : ivS} {z : Bool} {w : va_W} (hI : ivI cA h ab ac ar S z w) (o : Nat) (f : Nat → Int64) : ConY l D cA yL_pageOf (wmW yL_pageOf cL_pageOf 6 (some .int) [(0, 12, 15, 22), (0, 12, 19, 27)]) { frames := 8, cells := 2, slots := 12, locals := 182 } (w ++ [(o, .inl (cA 5, 1, .inr (.inl f)))]) [.ref (h 0), .int (bI b1), .int a2, .int a3, .ref o] 2 12 (PI (fun k w2 => ivL cA h ab ac ar o (s_pageOf S b1 a2 a3) k w2)) := by
  obtain ⟨fs, t, hw⟩ := hI.hd
  refine ConY.of (by decide) (Nat.le_of_ble_eq_true rfl) ?_
  intro p e s m args below meth c C hE hT hr
  refine k_eq (ws' := w ++ [(o, .inl (cA 5, 1, .inr (.inl f)))]) (lv' := [(0, .ref (h 0)), (1, .int (bI b1)), (2, .int a2), (3, .int a3), (4, .ref o)]) (st' := []) rfl rfl rfl ?_
  refine k_aload C 4 (pc := 0) dL_pageOf_0 rfl ?_
  refine k_iconst C (pc := 2) (v := (0 : Int32)) dL_pageOf_2 rfl ?_
  refine k_aload_n C 0 (pc := 3) dL_pageOf_3 rfl rfl ?_
  refine k_iload_n C 1 (pc := 4) dL_pageOf_4 rfl rfl ?_
  refine k_iload_n C 2 (pc := 5) dL_pageOf_5 rfl rfl ?_
  refine k_iload_n C 3 (pc := 6) dL_pageOf_6 rfl rfl ?_
  refine kx_onL C (pc := 7) (kx_runV C hE.1 (As := [.int (bI b1), .int a2, .int a3]) (rest := [.int (0 : Int32), .ref o]) (ci := 6) (q0 := 0) (xi_pageOf l D cA h ab ac ar hst b1 a2 a3 hI) ⟨k_cwB C tW_4_90 tW_4_87 tW_1_1 okX6_pageOf rfl rfl ⟨Nat.le_of_ble_eq_true rfl, Nat.le_of_ble_eq_true rfl⟩, C.w tW_4_88, C.w tW_4_89⟩ (by rw [hw]; rfl) rfl rfl rfl rfl (Nat.le_of_ble_eq_true rfl) dL_pageOf_7 ⟨Nat.le_of_ble_eq_true rfl, Nat.le_of_ble_eq_true rfl⟩) (fun v w1 h_ => by obtain ⟨r, rfl, h1⟩ := h_; exact h1.2.2.ad.trans hI.ad.symm) (fun E w1 h_ => by rcases h_ with ⟨-, h1⟩ | ⟨-, h1⟩ <;> exact h1.2.ad.trans hI.ad.symm) (fun E w1 hx => ?_) (fun v w1 hv => ?_)
  · rcases hx with ⟨rfl, h1, h2⟩ | ⟨rfl, h1, h2⟩
    · refine ky_catch C (pc := 7) (pre := []) (suf := [(0, 12, 19, 27)]) (0, 12, 15, 22) hT rfl (fun _ h_ => absurd h_ List.not_mem_nil) (by decide) (by decide) tW_4_3 (va_Nw.use rfl (hE.1.2.2.2.1 "java/lang/IndexOutOfBoundsException" (List.mem_of_getElem? (i := 1) rfl))) (fun q_ => ?_)
      refine k_astore C (pc := 15) dL_pageOf_15 (Nat.lt_of_lt_of_le (Nat.lt_succ_self _) (Nat.le_of_ble_eq_true rfl)) (lv' := [(5, .ref q_), (0, .ref (h 0)), (1, .int (bI b1)), (2, .int a2), (3, .int a3), (4, .ref o)]) rfl ?_
      refine k_iconst C (pc := 17) (v := (1 : Int32)) dL_pageOf_17 rfl ?_
      exact kx_iret C (pc := 18) hr dL_pageOf_18 (Nat.le_of_ble_eq_true rfl) (Nat.le_of_ble_eq_true rfl) ⟨h1.symm, w1, f, rfl, h2, fun q => absurd (h1.symm.trans q) (by decide)⟩
    · refine ky_catch C (pc := 7) (pre := [(0, 12, 15, 22)]) (suf := []) (0, 12, 19, 27) hT rfl (List.forall_mem_cons.mpr ⟨⟨by decide, "java/lang/IndexOutOfBoundsException", tW_4_3, hE.2 ("java/util/NoSuchElementException", "java/lang/IndexOutOfBoundsException") (List.mem_of_getElem? (i := 1) rfl)⟩, fun _ h_ => absurd h_ List.not_mem_nil⟩) (by decide) (by decide) tW_4_31 (va_Nw.use rfl (hE.1.2.2.2.1 "java/util/NoSuchElementException" (List.mem_of_getElem? (i := 2) rfl))) (fun q_ => ?_)
      refine k_astore C (pc := 19) dL_pageOf_19 (Nat.lt_of_lt_of_le (Nat.lt_succ_self _) (Nat.le_of_ble_eq_true rfl)) (lv' := [(5, .ref q_), (0, .ref (h 0)), (1, .int (bI b1)), (2, .int a2), (3, .int a3), (4, .ref o)]) rfl ?_
      refine k_iconst C (pc := 21) (v := (2 : Int32)) dL_pageOf_21 rfl ?_
      exact kx_iret C (pc := 22) hr dL_pageOf_22 (Nat.le_of_ble_eq_true rfl) (Nat.le_of_ble_eq_true rfl) ⟨h1.symm, w1, f, rfl, h2, fun q => absurd (h1.symm.trans q) (by decide)⟩
  · obtain ⟨r, rfl, h1, h2, h3⟩ := hv
    refine k_eq (pc := 10) (ws' := w1 ++ [(o, .inl (cA 5, 1, .inr (.inl f)))]) (st' := [.int r, .int (0 : Int32), .ref o]) rfl rfl rfl ?_
    refine k_i2l C (pc := 10) (v := r.toInt64) dL_pageOf_10 rfl ?_
    refine k_last C (pc := 11) w1.length (cc_get _ _) (vp_in_nI (n := 0) (by decide) (by decide)) (ws' := w1 ++ [(o, .inl (cA 5, 1, .inr (.inl (vp_updL f (0 : Int32).toNatClampNeg r.toInt64))))]) (cc_set _ _ _) dL_pageOf_11 ?_
    refine k_goto C (pc := 12) (tgt := 23) dL_pageOf_12 (by decide) ?_
    refine k_iconst C (pc := 23) (v := (0 : Int32)) dL_pageOf_23 rfl ?_
    exact kx_iret C (pc := 24) hr dL_pageOf_24 (Nat.le_of_ble_eq_true rfl) (Nat.le_of_ble_eq_true rfl) ⟨h1.symm, w1, _, rfl, h3, fun _ => congrArg Int32.toInt64 h2⟩

/-! help -/
theorem dL_help_0 : decode cL_help 0 = .ok (.aload_n 2, 1) := by decide +kernel
theorem dL_help_1 : decode cL_help 1 = .ok (.iconst 0, 1) := by decide +kernel
theorem dL_help_2 : decode cL_help 2 = .ok (.aload_n 0, 1) := by decide +kernel
theorem dL_help_3 : decode cL_help 3 = .ok (.iload_n 1, 1) := by decide +kernel
theorem dL_help_4 : decode cL_help 4 = .ok (.invokevirtual 44, 3) := by decide +kernel
theorem dL_help_7 : decode cL_help 7 = .ok (.i2l, 1) := by decide +kernel
theorem dL_help_8 : decode cL_help 8 = .ok (.lastore, 1) := by decide +kernel
theorem dL_help_9 : decode cL_help 9 = .ok (.goto 6, 3) := by decide +kernel
theorem dL_help_12 : decode cL_help 12 = .ok (.astore_n 3, 1) := by decide +kernel
theorem dL_help_13 : decode cL_help 13 = .ok (.iconst 1, 1) := by decide +kernel
theorem dL_help_14 : decode cL_help 14 = .ok (.ireturn, 1) := by decide +kernel
theorem dL_help_15 : decode cL_help 15 = .ok (.iconst 0, 1) := by decide +kernel
theorem dL_help_16 : decode cL_help 16 = .ok (.ireturn, 1) := by decide +kernel
theorem okL_help : okY yL_help 3 := ⟨by decide +kernel, by decide +kernel, by decide +kernel⟩
theorem tYL_help : Cond.codeWith yL_help cL_help 4 (some .int) [(0, 9, 12, 22)] ∈ W0 := W0_4 (i := 98) rfl rfl
set_option maxHeartbeats 1000000 in
theorem wl_help (l : Launch) (D : va_G) (cA : Nat → ClassId) (h ab ac ar : Nat → Nat) (hst : l.stackTraces = false) (a1 : Int32) {S : ivS} {z : Bool} {w : va_W} (hI : ivI cA h ab ac ar S z w) (o : Nat) (f : Nat → Int64) : ConY l D cA yL_help (wmW yL_help cL_help 4 (some .int) [(0, 9, 12, 22)]) { frames := 8, cells := 1, slots := 6, locals := 139 } (w ++ [(o, .inl (cA 5, 1, .inr (.inl f)))]) [.ref (h 0), .int a1, .ref o] 1 6 (PI (fun k w2 => ivL cA h ab ac ar o (s_help S a1) k w2)) := by
  obtain ⟨fs, t, hw⟩ := hI.hd
  refine ConY.of (by decide) (Nat.le_of_ble_eq_true rfl) ?_
  intro p e s m args below meth c C hE hT hr
  refine k_eq (ws' := w ++ [(o, .inl (cA 5, 1, .inr (.inl f)))]) (lv' := [(0, .ref (h 0)), (1, .int a1), (2, .ref o)]) (st' := []) rfl rfl rfl ?_
  refine k_aload_n C 2 (pc := 0) dL_help_0 rfl rfl ?_
  refine k_iconst C (pc := 1) (v := (0 : Int32)) dL_help_1 rfl ?_
  refine k_aload_n C 0 (pc := 2) dL_help_2 rfl rfl ?_
  refine k_iload_n C 1 (pc := 3) dL_help_3 rfl rfl ?_
  refine kx_onL C (pc := 4) (kx_runV C hE.1 (As := [.int a1]) (rest := [.int (0 : Int32), .ref o]) (ci := 6) (q0 := 0) (xi_help l D cA h ab ac ar hst a1 hI) ⟨k_cwB C tW_4_102 tW_4_99 tW_1_1 okX6_help rfl rfl ⟨Nat.le_of_ble_eq_true rfl, Nat.le_of_ble_eq_true rfl⟩, C.w tW_4_100, C.w tW_4_101⟩ (by rw [hw]; rfl) rfl rfl rfl rfl (Nat.le_of_ble_eq_true rfl) dL_help_4 ⟨Nat.le_of_ble_eq_true rfl, Nat.le_of_ble_eq_true rfl⟩) (fun v w1 h_ => by obtain ⟨r, rfl, h1⟩ := h_; exact h1.2.2.ad.trans hI.ad.symm) (fun E w1 h_ => by rcases h_ with ⟨-, h1⟩ <;> exact h1.2.ad.trans hI.ad.symm) (fun E w1 hx => ?_) (fun v w1 hv => ?_)
  · obtain ⟨rfl, h1, h2⟩ := hx
    refine ky_catch C (pc := 4) (pre := []) (suf := []) (0, 9, 12, 22) hT rfl (fun _ h_ => absurd h_ List.not_mem_nil) (by decide) (by decide) tW_4_3 (va_Nw.use rfl (hE.1.2.2.2.1 "java/lang/IndexOutOfBoundsException" (List.mem_of_getElem? (i := 1) rfl))) (fun q_ => ?_)
    refine k_astore_n C (pc := 12) dL_help_12 rfl (Nat.lt_of_lt_of_le (Nat.lt_succ_self _) (Nat.le_of_ble_eq_true rfl)) (lv' := [(3, .ref q_), (0, .ref (h 0)), (1, .int a1), (2, .ref o)]) rfl ?_
    refine k_iconst C (pc := 13) (v := (1 : Int32)) dL_help_13 rfl ?_
    exact kx_iret C (pc := 14) hr dL_help_14 (Nat.le_of_ble_eq_true rfl) (Nat.le_of_ble_eq_true rfl) ⟨h1.symm, w1, f, rfl, h2, fun q => absurd (h1.symm.trans q) (by decide)⟩
  · obtain ⟨r, rfl, h1, h2, h3⟩ := hv
    refine k_eq (pc := 7) (ws' := w1 ++ [(o, .inl (cA 5, 1, .inr (.inl f)))]) (st' := [.int r, .int (0 : Int32), .ref o]) rfl rfl rfl ?_
    refine k_i2l C (pc := 7) (v := r.toInt64) dL_help_7 rfl ?_
    refine k_last C (pc := 8) w1.length (cc_get _ _) (vp_in_nI (n := 0) (by decide) (by decide)) (ws' := w1 ++ [(o, .inl (cA 5, 1, .inr (.inl (vp_updL f (0 : Int32).toNatClampNeg r.toInt64))))]) (cc_set _ _ _) dL_help_8 ?_
    refine k_goto C (pc := 9) (tgt := 15) dL_help_9 (by decide) ?_
    refine k_iconst C (pc := 15) (v := (0 : Int32)) dL_help_15 rfl ?_
    exact kx_iret C (pc := 16) hr dL_help_16 (Nat.le_of_ble_eq_true rfl) (Nat.le_of_ble_eq_true rfl) ⟨h1.symm, w1, _, rfl, h3, fun _ => congrArg Int32.toInt64 h2⟩

/-! fix -/
theorem dL_fix_0 : decode cL_fix 0 = .ok (.aload_n 3, 1) := by decide +kernel
theorem dL_fix_1 : decode cL_fix 1 = .ok (.iconst 0, 1) := by decide +kernel
theorem dL_fix_2 : decode cL_fix 2 = .ok (.aload_n 0, 1) := by decide +kernel
theorem dL_fix_3 : decode cL_fix 3 = .ok (.iload_n 1, 1) := by decide +kernel
theorem dL_fix_4 : decode cL_fix 4 = .ok (.iload_n 2, 1) := by decide +kernel
theorem dL_fix_5 : decode cL_fix 5 = .ok (.invokevirtual 47, 3) := by decide +kernel
theorem dL_fix_8 : decode cL_fix 8 = .ok (.i2l, 1) := by decide +kernel
theorem dL_fix_9 : decode cL_fix 9 = .ok (.lastore, 1) := by decide +kernel
theorem dL_fix_10 : decode cL_fix 10 = .ok (.goto 11, 3) := by decide +kernel
theorem dL_fix_13 : decode cL_fix 13 = .ok (.astore 4, 2) := by decide +kernel
theorem dL_fix_15 : decode cL_fix 15 = .ok (.iconst 1, 1) := by decide +kernel
theorem dL_fix_16 : decode cL_fix 16 = .ok (.ireturn, 1) := by decide +kernel
theorem dL_fix_17 : decode cL_fix 17 = .ok (.astore 4, 2) := by decide +kernel
theorem dL_fix_19 : decode cL_fix 19 = .ok (.iconst 2, 1) := by decide +kernel
theorem dL_fix_20 : decode cL_fix 20 = .ok (.ireturn, 1) := by decide +kernel
theorem dL_fix_21 : decode cL_fix 21 = .ok (.iconst 0, 1) := by decide +kernel
theorem dL_fix_22 : decode cL_fix 22 = .ok (.ireturn, 1) := by decide +kernel
theorem okL_fix : okY yL_fix 4 := ⟨by decide +kernel, by decide +kernel, by decide +kernel⟩
theorem tYL_fix : Cond.codeWith yL_fix cL_fix 5 (some .int) [(0, 10, 13, 22), (0, 10, 17, 13)] ∈ W0 := W0_4 (i := 111) rfl rfl
set_option maxHeartbeats 1000000 in
theorem wl_fix (l : Launch) (D : va_G) (cA : Nat → ClassId) (h ab ac ar : Nat → Nat) (hst : l.stackTraces = false) (a1 : Int32) (a2 : Int32) {S : ivS} {z : Bool} {w : va_W} (hI : ivI cA h ab ac ar S z w) (o : Nat) (f : Nat → Int64) : ConY l D cA yL_fix (wmW yL_fix cL_fix 5 (some .int) [(0, 10, 13, 22), (0, 10, 17, 13)]) { frames := 8, cells := 2, slots := 12, locals := 139 } (w ++ [(o, .inl (cA 5, 1, .inr (.inl f)))]) [.ref (h 0), .int a1, .int a2, .ref o] 2 12 (PI (fun k w2 => ivL cA h ab ac ar o (s_fix S a1 a2) k w2)) := by
  obtain ⟨fs, t, hw⟩ := hI.hd
  refine ConY.of (by decide) (Nat.le_of_ble_eq_true rfl) ?_
  intro p e s m args below meth c C hE hT hr
  refine k_eq (ws' := w ++ [(o, .inl (cA 5, 1, .inr (.inl f)))]) (lv' := [(0, .ref (h 0)), (1, .int a1), (2, .int a2), (3, .ref o)]) (st' := []) rfl rfl rfl ?_
  refine k_aload_n C 3 (pc := 0) dL_fix_0 rfl rfl ?_
  refine k_iconst C (pc := 1) (v := (0 : Int32)) dL_fix_1 rfl ?_
  refine k_aload_n C 0 (pc := 2) dL_fix_2 rfl rfl ?_
  refine k_iload_n C 1 (pc := 3) dL_fix_3 rfl rfl ?_
  refine k_iload_n C 2 (pc := 4) dL_fix_4 rfl rfl ?_
  refine kx_onL C (pc := 5) (kx_runV C hE.1 (As := [.int a1, .int a2]) (rest := [.int (0 : Int32), .ref o]) (ci := 6) (q0 := 0) (xi_fix l D cA h ab ac ar hst a1 a2 hI) ⟨k_cwB C tW_4_115 tW_4_112 tW_1_1 okX6_fix rfl rfl ⟨Nat.le_of_ble_eq_true rfl, Nat.le_of_ble_eq_true rfl⟩, C.w tW_4_113, C.w tW_4_114⟩ (by rw [hw]; rfl) rfl rfl rfl rfl (Nat.le_of_ble_eq_true rfl) dL_fix_5 ⟨Nat.le_of_ble_eq_true rfl, Nat.le_of_ble_eq_true rfl⟩) (fun v w1 h_ => by obtain ⟨r, rfl, h1⟩ := h_; exact h1.2.2.ad.trans hI.ad.symm) (fun E w1 h_ => by rcases h_ with ⟨-, h1⟩ | ⟨-, h1⟩ <;> exact h1.2.ad.trans hI.ad.symm) (fun E w1 hx => ?_) (fun v w1 hv => ?_)
  · rcases hx with ⟨rfl, h1, h2⟩ | ⟨rfl, h1, h2⟩
    · refine ky_catch C (pc := 5) (pre := []) (suf := [(0, 10, 17, 13)]) (0, 10, 13, 22) hT rfl (fun _ h_ => absurd h_ List.not_mem_nil) (by decide) (by decide) tW_4_3 (va_Nw.use rfl (hE.1.2.2.2.1 "java/lang/IndexOutOfBoundsException" (List.mem_of_getElem? (i := 1) rfl))) (fun q_ => ?_)
      refine k_astore C (pc := 13) dL_fix_13 (Nat.lt_of_lt_of_le (Nat.lt_succ_self _) (Nat.le_of_ble_eq_true rfl)) (lv' := [(4, .ref q_), (0, .ref (h 0)), (1, .int a1), (2, .int a2), (3, .ref o)]) rfl ?_
      refine k_iconst C (pc := 15) (v := (1 : Int32)) dL_fix_15 rfl ?_
      exact kx_iret C (pc := 16) hr dL_fix_16 (Nat.le_of_ble_eq_true rfl) (Nat.le_of_ble_eq_true rfl) ⟨h1.symm, w1, f, rfl, h2, fun q => absurd (h1.symm.trans q) (by decide)⟩
    · refine ky_catch C (pc := 5) (pre := [(0, 10, 13, 22)]) (suf := []) (0, 10, 17, 13) hT rfl (List.forall_mem_cons.mpr ⟨⟨by decide, "java/lang/IndexOutOfBoundsException", tW_4_3, hE.2 ("java/lang/IllegalArgumentException", "java/lang/IndexOutOfBoundsException") (List.mem_of_getElem? (i := 0) rfl)⟩, fun _ h_ => absurd h_ List.not_mem_nil⟩) (by decide) (by decide) tW_3_10 (va_Nw.use rfl (hE.1.2.2.2.1 "java/lang/IllegalArgumentException" (List.mem_of_getElem? (i := 0) rfl))) (fun q_ => ?_)
      refine k_astore C (pc := 17) dL_fix_17 (Nat.lt_of_lt_of_le (Nat.lt_succ_self _) (Nat.le_of_ble_eq_true rfl)) (lv' := [(4, .ref q_), (0, .ref (h 0)), (1, .int a1), (2, .int a2), (3, .ref o)]) rfl ?_
      refine k_iconst C (pc := 19) (v := (2 : Int32)) dL_fix_19 rfl ?_
      exact kx_iret C (pc := 20) hr dL_fix_20 (Nat.le_of_ble_eq_true rfl) (Nat.le_of_ble_eq_true rfl) ⟨h1.symm, w1, f, rfl, h2, fun q => absurd (h1.symm.trans q) (by decide)⟩
  · obtain ⟨r, rfl, h1, h2, h3⟩ := hv
    refine k_eq (pc := 8) (ws' := w1 ++ [(o, .inl (cA 5, 1, .inr (.inl f)))]) (st' := [.int r, .int (0 : Int32), .ref o]) rfl rfl rfl ?_
    refine k_i2l C (pc := 8) (v := r.toInt64) dL_fix_8 rfl ?_
    refine k_last C (pc := 9) w1.length (cc_get _ _) (vp_in_nI (n := 0) (by decide) (by decide)) (ws' := w1 ++ [(o, .inl (cA 5, 1, .inr (.inl (vp_updL f (0 : Int32).toNatClampNeg r.toInt64))))]) (cc_set _ _ _) dL_fix_9 ?_
    refine k_goto C (pc := 10) (tgt := 21) dL_fix_10 (by decide) ?_
    refine k_iconst C (pc := 21) (v := (0 : Int32)) dL_fix_21 rfl ?_
    exact kx_iret C (pc := 22) hr dL_fix_22 (Nat.le_of_ble_eq_true rfl) (Nat.le_of_ble_eq_true rfl) ⟨h1.symm, w1, _, rfl, h3, fun _ => congrArg Int32.toInt64 h2⟩

/-! begin -/
theorem dL_begin_0 : decode cL_begin 0 = .ok (.aload_n 3, 1) := by decide +kernel
theorem dL_begin_1 : decode cL_begin 1 = .ok (.iconst 0, 1) := by decide +kernel
theorem dL_begin_2 : decode cL_begin 2 = .ok (.aload_n 0, 1) := by decide +kernel
theorem dL_begin_3 : decode cL_begin 3 = .ok (.iload_n 1, 1) := by decide +kernel
theorem dL_begin_4 : decode cL_begin 4 = .ok (.iload_n 2, 1) := by decide +kernel
theorem dL_begin_5 : decode cL_begin 5 = .ok (.invokevirtual 50, 3) := by decide +kernel
theorem dL_begin_8 : decode cL_begin 8 = .ok (.ifCond .eq 7, 3) := by decide +kernel
theorem dL_begin_11 : decode cL_begin 11 = .ok (.lconst 1, 1) := by decide +kernel
theorem dL_begin_12 : decode cL_begin 12 = .ok (.goto 4, 3) := by decide +kernel
theorem dL_begin_15 : decode cL_begin 15 = .ok (.lconst 0, 1) := by decide +kernel
theorem dL_begin_16 : decode cL_begin 16 = .ok (.lastore, 1) := by decide +kernel
theorem dL_begin_17 : decode cL_begin 17 = .ok (.goto 7, 3) := by decide +kernel
theorem dL_begin_20 : decode cL_begin 20 = .ok (.astore 4, 2) := by decide +kernel
theorem dL_begin_22 : decode cL_begin 22 = .ok (.iconst 1, 1) := by decide +kernel
theorem dL_begin_23 : decode cL_begin 23 = .ok (.ireturn, 1) := by decide +kernel
theorem dL_begin_24 : decode cL_begin 24 = .ok (.iconst 0, 1) := by decide +kernel
theorem dL_begin_25 : decode cL_begin 25 = .ok (.ireturn, 1) := by decide +kernel
theorem okL_begin : okY yL_begin 4 := ⟨by decide +kernel, by decide +kernel, by decide +kernel⟩
theorem tYL_begin : Cond.codeWith yL_begin cL_begin 5 (some .int) [(0, 17, 20, 22)] ∈ W0 := W0_4 (i := 119) rfl rfl
set_option maxHeartbeats 1000000 in
theorem wl_begin (l : Launch) (D : va_G) (cA : Nat → ClassId) (h ab ac ar : Nat → Nat) (hst : l.stackTraces = false) (a1 : Int32) (b2 : Bool) {S : ivS} {z : Bool} {w : va_W} (hI : ivI cA h ab ac ar S z w) (o : Nat) (f : Nat → Int64) : ConY l D cA yL_begin (wmW yL_begin cL_begin 5 (some .int) [(0, 17, 20, 22)]) { frames := 8, cells := 1, slots := 6, locals := 139 } (w ++ [(o, .inl (cA 5, 1, .inr (.inl f)))]) [.ref (h 0), .int a1, .int (bI b2), .ref o] 1 6 (PI (fun k w2 => ivL cA h ab ac ar o (s_begin S a1 b2) k w2)) := by
  obtain ⟨fs, t, hw⟩ := hI.hd
  refine ConY.of (by decide) (Nat.le_of_ble_eq_true rfl) ?_
  intro p e s m args below meth c C hE hT hr
  refine k_eq (ws' := w ++ [(o, .inl (cA 5, 1, .inr (.inl f)))]) (lv' := [(0, .ref (h 0)), (1, .int a1), (2, .int (bI b2)), (3, .ref o)]) (st' := []) rfl rfl rfl ?_
  refine k_aload_n C 3 (pc := 0) dL_begin_0 rfl rfl ?_
  refine k_iconst C (pc := 1) (v := (0 : Int32)) dL_begin_1 rfl ?_
  refine k_aload_n C 0 (pc := 2) dL_begin_2 rfl rfl ?_
  refine k_iload_n C 1 (pc := 3) dL_begin_3 rfl rfl ?_
  refine k_iload_n C 2 (pc := 4) dL_begin_4 rfl rfl ?_
  refine kx_onL C (pc := 5) (kx_runV C hE.1 (As := [.int a1, .int (bI b2)]) (rest := [.int (0 : Int32), .ref o]) (ci := 6) (q0 := 0) (xi_begin l D cA h ab ac ar hst a1 b2 hI) ⟨k_cwB C tW_4_123 tW_4_120 tW_1_1 okX6_begin rfl rfl ⟨Nat.le_of_ble_eq_true rfl, Nat.le_of_ble_eq_true rfl⟩, C.w tW_4_121, C.w tW_4_122⟩ (by rw [hw]; rfl) rfl rfl rfl rfl (Nat.le_of_ble_eq_true rfl) dL_begin_5 ⟨Nat.le_of_ble_eq_true rfl, Nat.le_of_ble_eq_true rfl⟩) (fun v w1 h_ => by obtain ⟨r, rfl, h1⟩ := h_; exact h1.2.2.ad.trans hI.ad.symm) (fun E w1 h_ => by rcases h_ with ⟨-, h1⟩ <;> exact h1.2.ad.trans hI.ad.symm) (fun E w1 hx => ?_) (fun v w1 hv => ?_)
  · obtain ⟨rfl, h1, h2⟩ := hx
    refine ky_catch C (pc := 5) (pre := []) (suf := []) (0, 17, 20, 22) hT rfl (fun _ h_ => absurd h_ List.not_mem_nil) (by decide) (by decide) tW_4_3 (va_Nw.use rfl (hE.1.2.2.2.1 "java/lang/IndexOutOfBoundsException" (List.mem_of_getElem? (i := 1) rfl))) (fun q_ => ?_)
    refine k_astore C (pc := 20) dL_begin_20 (Nat.lt_of_lt_of_le (Nat.lt_succ_self _) (Nat.le_of_ble_eq_true rfl)) (lv' := [(4, .ref q_), (0, .ref (h 0)), (1, .int a1), (2, .int (bI b2)), (3, .ref o)]) rfl ?_
    refine k_iconst C (pc := 22) (v := (1 : Int32)) dL_begin_22 rfl ?_
    exact kx_iret C (pc := 23) hr dL_begin_23 (Nat.le_of_ble_eq_true rfl) (Nat.le_of_ble_eq_true rfl) ⟨h1.symm, w1, f, rfl, h2, fun q => absurd (h1.symm.trans q) (by decide)⟩
  · obtain ⟨r, rfl, h1, h2, h3⟩ := hv
    refine k_eq (pc := 8) (ws' := w1 ++ [(o, .inl (cA 5, 1, .inr (.inl f)))]) (st' := [.int r, .int (0 : Int32), .ref o]) rfl rfl rfl ?_
    have h01 := s_begin_01 h1
    refine k_if_eq C (pc := 8) (tgt := 15) dL_begin_8 (by decide) (fun c_ => ?_) (fun c_ => ?_)
    · refine k_lconst C (pc := 15) (v := (0 : Int64)) dL_begin_15 rfl ?_
      refine k_last C (pc := 16) w1.length (cc_get _ _) (vp_in_nI (n := 0) (by decide) (by decide)) (ws' := w1 ++ [(o, .inl (cA 5, 1, .inr (.inl (vp_updL f (0 : Int32).toNatClampNeg (0 : Int64)))))]) (cc_set _ _ _) dL_begin_16 ?_
      refine k_goto C (pc := 17) (tgt := 24) dL_begin_17 (by decide) ?_
      refine k_iconst C (pc := 24) (v := (0 : Int32)) dL_begin_24 rfl ?_
      exact kx_iret C (pc := 25) hr dL_begin_25 (Nat.le_of_ble_eq_true rfl) (Nat.le_of_ble_eq_true rfl) ⟨h1.symm, w1, _, rfl, h3, fun _ => by rw [← h2, c_]; rfl⟩
    · refine k_lconst C (pc := 11) (v := (1 : Int64)) dL_begin_11 rfl ?_
      refine k_goto C (pc := 12) (tgt := 16) dL_begin_12 (by decide) ?_
      refine k_last C (pc := 16) w1.length (cc_get _ _) (vp_in_nI (n := 0) (by decide) (by decide)) (ws' := w1 ++ [(o, .inl (cA 5, 1, .inr (.inl (vp_updL f (0 : Int32).toNatClampNeg (1 : Int64)))))]) (cc_set _ _ _) dL_begin_16 ?_
      refine k_goto C (pc := 17) (tgt := 24) dL_begin_17 (by decide) ?_
      refine k_iconst C (pc := 24) (v := (0 : Int32)) dL_begin_24 rfl ?_
      exact kx_iret C (pc := 25) hr dL_begin_25 (Nat.le_of_ble_eq_true rfl) (Nat.le_of_ble_eq_true rfl) ⟨h1.symm, w1, _, rfl, h3, fun _ => by rw [h01.resolve_left (by rw [← h2]; exact c_)]; rfl⟩

/-! insert -/
theorem dL_insert_0 : decode cL_insert 0 = .ok (.aload 4, 2) := by decide +kernel
theorem dL_insert_2 : decode cL_insert 2 = .ok (.iconst 0, 1) := by decide +kernel
theorem dL_insert_3 : decode cL_insert 3 = .ok (.aload_n 0, 1) := by decide +kernel
theorem dL_insert_4 : decode cL_insert 4 = .ok (.iload_n 1, 1) := by decide +kernel
theorem dL_insert_5 : decode cL_insert 5 = .ok (.iload_n 2, 1) := by decide +kernel
theorem dL_insert_6 : decode cL_insert 6 = .ok (.iload_n 3, 1) := by decide +kernel
theorem dL_insert_7 : decode cL_insert 7 = .ok (.invokevirtual 54, 3) := by decide +kernel
theorem dL_insert_10 : decode cL_insert 10 = .ok (.i2l, 1) := by decide +kernel
theorem dL_insert_11 : decode cL_insert 11 = .ok (.lastore, 1) := by decide +kernel
theorem dL_insert_12 : decode cL_insert 12 = .ok (.goto 11, 3) := by decide +kernel
theorem dL_insert_15 : decode cL_insert 15 = .ok (.astore 5, 2) := by decide +kernel
theorem dL_insert_17 : decode cL_insert 17 = .ok (.iconst 1, 1) := by decide +kernel
theorem dL_insert_18 : decode cL_insert 18 = .ok (.ireturn, 1) := by decide +kernel
theorem dL_insert_19 : decode cL_insert 19 = .ok (.astore 5, 2) := by decide +kernel
theorem dL_insert_21 : decode cL_insert 21 = .ok (.iconst 2, 1) := by decide +kernel
theorem dL_insert_22 : decode cL_insert 22 = .ok (.ireturn, 1) := by decide +kernel
theorem dL_insert_23 : decode cL_insert 23 = .ok (.iconst 0, 1) := by decide +kernel
theorem dL_insert_24 : decode cL_insert 24 = .ok (.ireturn, 1) := by decide +kernel
theorem okL_insert : okY yL_insert 5 := ⟨by decide +kernel, by decide +kernel, by decide +kernel⟩
theorem tYL_insert : Cond.codeWith yL_insert cL_insert 6 (some .int) [(0, 12, 15, 13), (0, 12, 19, 57)] ∈ W0 := W0_4 (i := 127) rfl rfl
set_option maxHeartbeats 1000000 in
theorem wl_insert (l : Launch) (D : va_G) (cA : Nat → ClassId) (h ab ac ar : Nat → Nat) (hst : l.stackTraces = false) (a1 : Int32) (a2 : Int32) (a3 : Int32) {S : ivS} {z : Bool} {w : va_W} (hI : ivI cA h ab ac ar S z w) (o : Nat) (f : Nat → Int64) : ConY l D cA yL_insert (wmW yL_insert cL_insert 6 (some .int) [(0, 12, 15, 13), (0, 12, 19, 57)]) { frames := 7, cells := 1, slots := 6, locals := 140 } (w ++ [(o, .inl (cA 5, 1, .inr (.inl f)))]) [.ref (h 0), .int a1, .int a2, .int a3, .ref o] 1 6 (PI (fun k w2 => ivL cA h ab ac ar o (s_insert S a1 a2 a3) k w2)) := by
  obtain ⟨fs, t, hw⟩ := hI.hd
  refine ConY.of (by decide) (Nat.le_of_ble_eq_true rfl) ?_
  intro p e s m args below meth c C hE hT hr
  refine k_eq (ws' := w ++ [(o, .inl (cA 5, 1, .inr (.inl f)))]) (lv' := [(0, .ref (h 0)), (1, .int a1), (2, .int a2), (3, .int a3), (4, .ref o)]) (st' := []) rfl rfl rfl ?_
  refine k_aload C 4 (pc := 0) dL_insert_0 rfl ?_
  refine k_iconst C (pc := 2) (v := (0 : Int32)) dL_insert_2 rfl ?_
  refine k_aload_n C 0 (pc := 3) dL_insert_3 rfl rfl ?_
  refine k_iload_n C 1 (pc := 4) dL_insert_4 rfl rfl ?_
  refine k_iload_n C 2 (pc := 5) dL_insert_5 rfl rfl ?_
  refine k_iload_n C 3 (pc := 6) dL_insert_6 rfl rfl ?_
  refine kx_onL C (pc := 7) (kx_runV C hE.1 (As := [.int a1, .int a2, .int a3]) (rest := [.int (0 : Int32), .ref o]) (ci := 6) (q0 := 0) (xi_insert l D cA h ab ac ar hst a1 a2 a3 hI) ⟨k_cwB C tW_4_132 tW_4_129 tW_1_1 okX6_insert rfl rfl ⟨Nat.le_of_ble_eq_true rfl, Nat.le_of_ble_eq_true rfl⟩, C.w tW_4_130, C.w tW_4_131⟩ (by rw [hw]; rfl) rfl rfl rfl rfl (Nat.le_of_ble_eq_true rfl) dL_insert_7 ⟨Nat.le_of_ble_eq_true rfl, Nat.le_of_ble_eq_true rfl⟩) (fun v w1 h_ => by obtain ⟨r, rfl, h1⟩ := h_; exact h1.2.2.ad.trans hI.ad.symm) (fun E w1 h_ => by rcases h_ with ⟨-, h1⟩ | ⟨-, h1⟩ <;> exact h1.2.ad.trans hI.ad.symm) (fun E w1 hx => ?_) (fun v w1 hv => ?_)
  · rcases hx with ⟨rfl, h1, h2⟩ | ⟨rfl, h1, h2⟩
    · refine ky_catch C (pc := 7) (pre := []) (suf := [(0, 12, 19, 57)]) (0, 12, 15, 13) hT rfl (fun _ h_ => absurd h_ List.not_mem_nil) (by decide) (by decide) tW_3_10 (va_Nw.use rfl (hE.1.2.2.2.1 "java/lang/IllegalArgumentException" (List.mem_of_getElem? (i := 0) rfl))) (fun q_ => ?_)
      refine k_astore C (pc := 15) dL_insert_15 (Nat.lt_of_lt_of_le (Nat.lt_succ_self _) (Nat.le_of_ble_eq_true rfl)) (lv' := [(5, .ref q_), (0, .ref (h 0)), (1, .int a1), (2, .int a2), (3, .int a3), (4, .ref o)]) rfl ?_
      refine k_iconst C (pc := 17) (v := (1 : Int32)) dL_insert_17 rfl ?_
      exact kx_iret C (pc := 18) hr dL_insert_18 (Nat.le_of_ble_eq_true rfl) (Nat.le_of_ble_eq_true rfl) ⟨h1.symm, w1, f, rfl, h2, fun q => absurd (h1.symm.trans q) (by decide)⟩
    · refine ky_catch C (pc := 7) (pre := [(0, 12, 15, 13)]) (suf := []) (0, 12, 19, 57) hT rfl (List.forall_mem_cons.mpr ⟨⟨by decide, "java/lang/IllegalArgumentException", tW_3_10, hE.2 ("java/lang/IllegalStateException", "java/lang/IllegalArgumentException") (List.mem_of_getElem? (i := 3) rfl)⟩, fun _ h_ => absurd h_ List.not_mem_nil⟩) (by decide) (by decide) tW_4_128 (va_Nw.use rfl (hE.1.2.2.2.1 "java/lang/IllegalStateException" (List.mem_of_getElem? (i := 3) rfl))) (fun q_ => ?_)
      refine k_astore C (pc := 19) dL_insert_19 (Nat.lt_of_lt_of_le (Nat.lt_succ_self _) (Nat.le_of_ble_eq_true rfl)) (lv' := [(5, .ref q_), (0, .ref (h 0)), (1, .int a1), (2, .int a2), (3, .int a3), (4, .ref o)]) rfl ?_
      refine k_iconst C (pc := 21) (v := (2 : Int32)) dL_insert_21 rfl ?_
      exact kx_iret C (pc := 22) hr dL_insert_22 (Nat.le_of_ble_eq_true rfl) (Nat.le_of_ble_eq_true rfl) ⟨h1.symm, w1, f, rfl, h2, fun q => absurd (h1.symm.trans q) (by decide)⟩
  · obtain ⟨r, rfl, h1, h2, h3⟩ := hv
    refine k_eq (pc := 10) (ws' := w1 ++ [(o, .inl (cA 5, 1, .inr (.inl f)))]) (st' := [.int r, .int (0 : Int32), .ref o]) rfl rfl rfl ?_
    refine k_i2l C (pc := 10) (v := r.toInt64) dL_insert_10 rfl ?_
    refine k_last C (pc := 11) w1.length (cc_get _ _) (vp_in_nI (n := 0) (by decide) (by decide)) (ws' := w1 ++ [(o, .inl (cA 5, 1, .inr (.inl (vp_updL f (0 : Int32).toNatClampNeg r.toInt64))))]) (cc_set _ _ _) dL_insert_11 ?_
    refine k_goto C (pc := 12) (tgt := 23) dL_insert_12 (by decide) ?_
    refine k_iconst C (pc := 23) (v := (0 : Int32)) dL_insert_23 rfl ?_
    exact kx_iret C (pc := 24) hr dL_insert_24 (Nat.le_of_ble_eq_true rfl) (Nat.le_of_ble_eq_true rfl) ⟨h1.symm, w1, _, rfl, h3, fun _ => congrArg Int32.toInt64 h2⟩

/-! remove -/
theorem dL_remove_0 : decode cL_remove 0 = .ok (.aload_n 2, 1) := by decide +kernel
theorem dL_remove_1 : decode cL_remove 1 = .ok (.iconst 0, 1) := by decide +kernel
theorem dL_remove_2 : decode cL_remove 2 = .ok (.aload_n 0, 1) := by decide +kernel
theorem dL_remove_3 : decode cL_remove 3 = .ok (.iload_n 1, 1) := by decide +kernel
theorem dL_remove_4 : decode cL_remove 4 = .ok (.invokevirtual 59, 3) := by decide +kernel
theorem dL_remove_7 : decode cL_remove 7 = .ok (.i2l, 1) := by decide +kernel
theorem dL_remove_8 : decode cL_remove 8 = .ok (.lastore, 1) := by decide +kernel
theorem dL_remove_9 : decode cL_remove 9 = .ok (.goto 6, 3) := by decide +kernel
theorem dL_remove_12 : decode cL_remove 12 = .ok (.astore_n 3, 1) := by decide +kernel
theorem dL_remove_13 : decode cL_remove 13 = .ok (.iconst 1, 1) := by decide +kernel
theorem dL_remove_14 : decode cL_remove 14 = .ok (.ireturn, 1) := by decide +kernel
theorem dL_remove_15 : decode cL_remove 15 = .ok (.iconst 0, 1) := by decide +kernel
theorem dL_remove_16 : decode cL_remove 16 = .ok (.ireturn, 1) := by decide +kernel
theorem okL_remove : okY yL_remove 3 := ⟨by decide +kernel, by decide +kernel, by decide +kernel⟩
theorem tYL_remove : Cond.codeWith yL_remove cL_remove 4 (some .int) [(0, 9, 12, 22)] ∈ W0 := W0_4 (i := 155) rfl rfl
set_option maxHeartbeats 1000000 in
theorem wl_remove (l : Launch) (D : va_G) (cA : Nat → ClassId) (h ab ac ar : Nat → Nat) (hst : l.stackTraces = false) (a1 : Int32) {S : ivS} {z : Bool} {w : va_W} (hI : ivI cA h ab ac ar S z w) (o : Nat) (f : Nat → Int64) : ConY l D cA yL_remove (wmW yL_remove cL_remove 4 (some .int) [(0, 9, 12, 22)]) { frames := 8, cells := 1, slots := 6, locals := 138 } (w ++ [(o, .inl (cA 5, 1, .inr (.inl f)))]) [.ref (h 0), .int a1, .ref o] 1 6 (PI (fun k w2 => ivL cA h ab ac ar o (s_remove S a1) k w2)) := by
  obtain ⟨fs, t, hw⟩ := hI.hd
  refine ConY.of (by decide) (Nat.le_of_ble_eq_true rfl) ?_
  intro p e s m args below meth c C hE hT hr
  refine k_eq (ws' := w ++ [(o, .inl (cA 5, 1, .inr (.inl f)))]) (lv' := [(0, .ref (h 0)), (1, .int a1), (2, .ref o)]) (st' := []) rfl rfl rfl ?_
  refine k_aload_n C 2 (pc := 0) dL_remove_0 rfl rfl ?_
  refine k_iconst C (pc := 1) (v := (0 : Int32)) dL_remove_1 rfl ?_
  refine k_aload_n C 0 (pc := 2) dL_remove_2 rfl rfl ?_
  refine k_iload_n C 1 (pc := 3) dL_remove_3 rfl rfl ?_
  refine kx_onL C (pc := 4) (kx_runV C hE.1 (As := [.int a1]) (rest := [.int (0 : Int32), .ref o]) (ci := 6) (q0 := 0) (xi_remove l D cA h ab ac ar hst a1 hI) ⟨k_cwB C tW_4_159 tW_4_156 tW_1_1 okX6_remove rfl rfl ⟨Nat.le_of_ble_eq_true rfl, Nat.le_of_ble_eq_true rfl⟩, C.w tW_4_157, C.w tW_4_158⟩ (by rw [hw]; rfl) rfl rfl rfl rfl (Nat.le_of_ble_eq_true rfl) dL_remove_4 ⟨Nat.le_of_ble_eq_true rfl, Nat.le_of_ble_eq_true rfl⟩) (fun v w1 h_ => by obtain ⟨r, rfl, h1⟩ := h_; exact h1.2.2.ad.trans hI.ad.symm) (fun E w1 h_ => by rcases h_ with ⟨-, h1⟩ <;> exact h1.2.ad.trans hI.ad.symm) (fun E w1 hx => ?_) (fun v w1 hv => ?_)
  · obtain ⟨rfl, h1, h2⟩ := hx
    refine ky_catch C (pc := 4) (pre := []) (suf := []) (0, 9, 12, 22) hT rfl (fun _ h_ => absurd h_ List.not_mem_nil) (by decide) (by decide) tW_4_3 (va_Nw.use rfl (hE.1.2.2.2.1 "java/lang/IndexOutOfBoundsException" (List.mem_of_getElem? (i := 1) rfl))) (fun q_ => ?_)
    refine k_astore_n C (pc := 12) dL_remove_12 rfl (Nat.lt_of_lt_of_le (Nat.lt_succ_self _) (Nat.le_of_ble_eq_true rfl)) (lv' := [(3, .ref q_), (0, .ref (h 0)), (1, .int a1), (2, .ref o)]) rfl ?_
    refine k_iconst C (pc := 13) (v := (1 : Int32)) dL_remove_13 rfl ?_
    exact kx_iret C (pc := 14) hr dL_remove_14 (Nat.le_of_ble_eq_true rfl) (Nat.le_of_ble_eq_true rfl) ⟨h1.symm, w1, f, rfl, h2, fun q => absurd (h1.symm.trans q) (by decide)⟩
  · obtain ⟨r, rfl, h1, h2, h3⟩ := hv
    refine k_eq (pc := 7) (ws' := w1 ++ [(o, .inl (cA 5, 1, .inr (.inl f)))]) (st' := [.int r, .int (0 : Int32), .ref o]) rfl rfl rfl ?_
    refine k_i2l C (pc := 7) (v := r.toInt64) dL_remove_7 rfl ?_
    refine k_last C (pc := 8) w1.length (cc_get _ _) (vp_in_nI (n := 0) (by decide) (by decide)) (ws' := w1 ++ [(o, .inl (cA 5, 1, .inr (.inl (vp_updL f (0 : Int32).toNatClampNeg r.toInt64))))]) (cc_set _ _ _) dL_remove_8 ?_
    refine k_goto C (pc := 9) (tgt := 15) dL_remove_9 (by decide) ?_
    refine k_iconst C (pc := 15) (v := (0 : Int32)) dL_remove_15 rfl ?_
    exact kx_iret C (pc := 16) hr dL_remove_16 (Nat.le_of_ble_eq_true rfl) (Nat.le_of_ble_eq_true rfl) ⟨h1.symm, w1, _, rfl, h3, fun _ => congrArg Int32.toInt64 h2⟩

/-! retouch -/
theorem dL_retouch_0 : decode cL_retouch 0 = .ok (.aload 4, 2) := by decide +kernel
theorem dL_retouch_2 : decode cL_retouch 2 = .ok (.iconst 0, 1) := by decide +kernel
theorem dL_retouch_3 : decode cL_retouch 3 = .ok (.aload_n 0, 1) := by decide +kernel
theorem dL_retouch_4 : decode cL_retouch 4 = .ok (.iload_n 1, 1) := by decide +kernel
theorem dL_retouch_5 : decode cL_retouch 5 = .ok (.iload_n 2, 1) := by decide +kernel
theorem dL_retouch_6 : decode cL_retouch 6 = .ok (.iload_n 3, 1) := by decide +kernel
theorem dL_retouch_7 : decode cL_retouch 7 = .ok (.invokevirtual 62, 3) := by decide +kernel
theorem dL_retouch_10 : decode cL_retouch 10 = .ok (.i2l, 1) := by decide +kernel
theorem dL_retouch_11 : decode cL_retouch 11 = .ok (.lastore, 1) := by decide +kernel
theorem dL_retouch_12 : decode cL_retouch 12 = .ok (.goto 15, 3) := by decide +kernel
theorem dL_retouch_15 : decode cL_retouch 15 = .ok (.astore 5, 2) := by decide +kernel
theorem dL_retouch_17 : decode cL_retouch 17 = .ok (.iconst 1, 1) := by decide +kernel
theorem dL_retouch_18 : decode cL_retouch 18 = .ok (.ireturn, 1) := by decide +kernel
theorem dL_retouch_19 : decode cL_retouch 19 = .ok (.astore 5, 2) := by decide +kernel
theorem dL_retouch_21 : decode cL_retouch 21 = .ok (.iconst 2, 1) := by decide +kernel
theorem dL_retouch_22 : decode cL_retouch 22 = .ok (.ireturn, 1) := by decide +kernel
theorem dL_retouch_23 : decode cL_retouch 23 = .ok (.astore 5, 2) := by decide +kernel
theorem dL_retouch_25 : decode cL_retouch 25 = .ok (.iconst 3, 1) := by decide +kernel
theorem dL_retouch_26 : decode cL_retouch 26 = .ok (.ireturn, 1) := by decide +kernel
theorem dL_retouch_27 : decode cL_retouch 27 = .ok (.iconst 0, 1) := by decide +kernel
theorem dL_retouch_28 : decode cL_retouch 28 = .ok (.ireturn, 1) := by decide +kernel
theorem okL_retouch : okY yL_retouch 5 := ⟨by decide +kernel, by decide +kernel, by decide +kernel⟩
theorem tYL_retouch : Cond.codeWith yL_retouch cL_retouch 6 (some .int) [(0, 12, 15, 22), (0, 12, 19, 13), (0, 12, 23, 57)] ∈ W0 := W0_4 (i := 166) rfl rfl
set_option maxHeartbeats 1000000 in
theorem wl_retouch (l : Launch) (D : va_G) (cA : Nat → ClassId) (h ab ac ar : Nat → Nat) (hst : l.stackTraces = false) (a1 : Int32) (a2 : Int32) (a3 : Int32) {S : ivS} {z : Bool} {w : va_W} (hI : ivI cA h ab ac ar S z w) (o : Nat) (f : Nat → Int64) : ConY l D cA yL_retouch (wmW yL_retouch cL_retouch 6 (some .int) [(0, 12, 15, 22), (0, 12, 19, 13), (0, 12, 23, 57)]) { frames := 8, cells := 2, slots := 12, locals := 140 } (w ++ [(o, .inl (cA 5, 1, .inr (.inl f)))]) [.ref (h 0), .int a1, .int a2, .int a3, .ref o] 2 12 (PI (fun k w2 => ivL cA h ab ac ar o (s_retouch S a1 a2 a3) k w2)) := by
  obtain ⟨fs, t, hw⟩ := hI.hd
  refine ConY.of (by decide) (Nat.le_of_ble_eq_true rfl) ?_
  intro p e s m args below meth c C hE hT hr
  refine k_eq (ws' := w ++ [(o, .inl (cA 5, 1, .inr (.inl f)))]) (lv' := [(0, .ref (h 0)), (1, .int a1), (2, .int a2), (3, .int a3), (4, .ref o)]) (st' := []) rfl rfl rfl ?_
  refine k_aload C 4 (pc := 0) dL_retouch_0 rfl ?_
  refine k_iconst C (pc := 2) (v := (0 : Int32)) dL_retouch_2 rfl ?_
  refine k_aload_n C 0 (pc := 3) dL_retouch_3 rfl rfl ?_
  refine k_iload_n C 1 (pc := 4) dL_retouch_4 rfl rfl ?_
  refine k_iload_n C 2 (pc := 5) dL_retouch_5 rfl rfl ?_
  refine k_iload_n C 3 (pc := 6) dL_retouch_6 rfl rfl ?_
  refine kx_onL C (pc := 7) (kx_runV C hE.1 (As := [.int a1, .int a2, .int a3]) (rest := [.int (0 : Int32), .ref o]) (ci := 6) (q0 := 0) (xi_retouch l D cA h ab ac ar hst a1 a2 a3 hI) ⟨k_cwB C tW_4_170 tW_4_167 tW_1_1 okX6_retouch rfl rfl ⟨Nat.le_of_ble_eq_true rfl, Nat.le_of_ble_eq_true rfl⟩, C.w tW_4_168, C.w tW_4_169⟩ (by rw [hw]; rfl) rfl rfl rfl rfl (Nat.le_of_ble_eq_true rfl) dL_retouch_7 ⟨Nat.le_of_ble_eq_true rfl, Nat.le_of_ble_eq_true rfl⟩) (fun v w1 h_ => by obtain ⟨r, rfl, h1⟩ := h_; exact h1.2.2.ad.trans hI.ad.symm) (fun E w1 h_ => by rcases h_ with ⟨-, h1⟩ | ⟨-, h1⟩ | ⟨-, h1⟩ <;> exact h1.2.ad.trans hI.ad.symm) (fun E w1 hx => ?_) (fun v w1 hv => ?_)
  · rcases hx with ⟨rfl, h1, h2⟩ | ⟨rfl, h1, h2⟩ | ⟨rfl, h1, h2⟩
    · refine ky_catch C (pc := 7) (pre := []) (suf := [(0, 12, 19, 13), (0, 12, 23, 57)]) (0, 12, 15, 22) hT rfl (fun _ h_ => absurd h_ List.not_mem_nil) (by decide) (by decide) tW_4_3 (va_Nw.use rfl (hE.1.2.2.2.1 "java/lang/IndexOutOfBoundsException" (List.mem_of_getElem? (i := 1) rfl))) (fun q_ => ?_)
      refine k_astore C (pc := 15) dL_retouch_15 (Nat.lt_of_lt_of_le (Nat.lt_succ_self _) (Nat.le_of_ble_eq_true rfl)) (lv' := [(5, .ref q_), (0, .ref (h 0)), (1, .int a1), (2, .int a2), (3, .int a3), (4, .ref o)]) rfl ?_
      refine k_iconst C (pc := 17) (v := (1 : Int32)) dL_retouch_17 rfl ?_
      exact kx_iret C (pc := 18) hr dL_retouch_18 (Nat.le_of_ble_eq_true rfl) (Nat.le_of_ble_eq_true rfl) ⟨h1.symm, w1, f, rfl, h2, fun q => absurd (h1.symm.trans q) (by decide)⟩
    · refine ky_catch C (pc := 7) (pre := [(0, 12, 15, 22)]) (suf := [(0, 12, 23, 57)]) (0, 12, 19, 13) hT rfl (List.forall_mem_cons.mpr ⟨⟨by decide, "java/lang/IndexOutOfBoundsException", tW_4_3, hE.2 ("java/lang/IllegalArgumentException", "java/lang/IndexOutOfBoundsException") (List.mem_of_getElem? (i := 0) rfl)⟩, fun _ h_ => absurd h_ List.not_mem_nil⟩) (by decide) (by decide) tW_3_10 (va_Nw.use rfl (hE.1.2.2.2.1 "java/lang/IllegalArgumentException" (List.mem_of_getElem? (i := 0) rfl))) (fun q_ => ?_)
      refine k_astore C (pc := 19) dL_retouch_19 (Nat.lt_of_lt_of_le (Nat.lt_succ_self _) (Nat.le_of_ble_eq_true rfl)) (lv' := [(5, .ref q_), (0, .ref (h 0)), (1, .int a1), (2, .int a2), (3, .int a3), (4, .ref o)]) rfl ?_
      refine k_iconst C (pc := 21) (v := (2 : Int32)) dL_retouch_21 rfl ?_
      exact kx_iret C (pc := 22) hr dL_retouch_22 (Nat.le_of_ble_eq_true rfl) (Nat.le_of_ble_eq_true rfl) ⟨h1.symm, w1, f, rfl, h2, fun q => absurd (h1.symm.trans q) (by decide)⟩
    · refine ky_catch C (pc := 7) (pre := [(0, 12, 15, 22), (0, 12, 19, 13)]) (suf := []) (0, 12, 23, 57) hT rfl (List.forall_mem_cons.mpr ⟨⟨by decide, "java/lang/IndexOutOfBoundsException", tW_4_3, hE.2 ("java/lang/IllegalStateException", "java/lang/IndexOutOfBoundsException") (List.mem_of_getElem? (i := 4) rfl)⟩, List.forall_mem_cons.mpr ⟨⟨by decide, "java/lang/IllegalArgumentException", tW_3_10, hE.2 ("java/lang/IllegalStateException", "java/lang/IllegalArgumentException") (List.mem_of_getElem? (i := 3) rfl)⟩, fun _ h_ => absurd h_ List.not_mem_nil⟩⟩) (by decide) (by decide) tW_4_128 (va_Nw.use rfl (hE.1.2.2.2.1 "java/lang/IllegalStateException" (List.mem_of_getElem? (i := 3) rfl))) (fun q_ => ?_)
      refine k_astore C (pc := 23) dL_retouch_23 (Nat.lt_of_lt_of_le (Nat.lt_succ_self _) (Nat.le_of_ble_eq_true rfl)) (lv' := [(5, .ref q_), (0, .ref (h 0)), (1, .int a1), (2, .int a2), (3, .int a3), (4, .ref o)]) rfl ?_
      refine k_iconst C (pc := 25) (v := (3 : Int32)) dL_retouch_25 rfl ?_
      exact kx_iret C (pc := 26) hr dL_retouch_26 (Nat.le_of_ble_eq_true rfl) (Nat.le_of_ble_eq_true rfl) ⟨h1.symm, w1, f, rfl, h2, fun q => absurd (h1.symm.trans q) (by decide)⟩
  · obtain ⟨r, rfl, h1, h2, h3⟩ := hv
    refine k_eq (pc := 10) (ws' := w1 ++ [(o, .inl (cA 5, 1, .inr (.inl f)))]) (st' := [.int r, .int (0 : Int32), .ref o]) rfl rfl rfl ?_
    refine k_i2l C (pc := 10) (v := r.toInt64) dL_retouch_10 rfl ?_
    refine k_last C (pc := 11) w1.length (cc_get _ _) (vp_in_nI (n := 0) (by decide) (by decide)) (ws' := w1 ++ [(o, .inl (cA 5, 1, .inr (.inl (vp_updL f (0 : Int32).toNatClampNeg r.toInt64))))]) (cc_set _ _ _) dL_retouch_11 ?_
    refine k_goto C (pc := 12) (tgt := 27) dL_retouch_12 (by decide) ?_
    refine k_iconst C (pc := 27) (v := (0 : Int32)) dL_retouch_27 rfl ?_
    exact kx_iret C (pc := 28) hr dL_retouch_28 (Nat.le_of_ble_eq_true rfl) (Nat.le_of_ble_eq_true rfl) ⟨h1.symm, w1, _, rfl, h3, fun _ => congrArg Int32.toInt64 h2⟩

/-! setCost -/
theorem dL_setCost_0 : decode cL_setCost 0 = .ok (.aload_n 3, 1) := by decide +kernel
theorem dL_setCost_1 : decode cL_setCost 1 = .ok (.iconst 0, 1) := by decide +kernel
theorem dL_setCost_2 : decode cL_setCost 2 = .ok (.aload_n 0, 1) := by decide +kernel
theorem dL_setCost_3 : decode cL_setCost 3 = .ok (.iload_n 1, 1) := by decide +kernel
theorem dL_setCost_4 : decode cL_setCost 4 = .ok (.iload_n 2, 1) := by decide +kernel
theorem dL_setCost_5 : decode cL_setCost 5 = .ok (.invokevirtual 65, 3) := by decide +kernel
theorem dL_setCost_8 : decode cL_setCost 8 = .ok (.i2l, 1) := by decide +kernel
theorem dL_setCost_9 : decode cL_setCost 9 = .ok (.lastore, 1) := by decide +kernel
theorem dL_setCost_10 : decode cL_setCost 10 = .ok (.goto 7, 3) := by decide +kernel
theorem dL_setCost_13 : decode cL_setCost 13 = .ok (.astore 4, 2) := by decide +kernel
theorem dL_setCost_15 : decode cL_setCost 15 = .ok (.iconst 1, 1) := by decide +kernel
theorem dL_setCost_16 : decode cL_setCost 16 = .ok (.ireturn, 1) := by decide +kernel
theorem dL_setCost_17 : decode cL_setCost 17 = .ok (.iconst 0, 1) := by decide +kernel
theorem dL_setCost_18 : decode cL_setCost 18 = .ok (.ireturn, 1) := by decide +kernel
theorem okL_setCost : okY yL_setCost 4 := ⟨by decide +kernel, by decide +kernel, by decide +kernel⟩
theorem tYL_setCost : Cond.codeWith yL_setCost cL_setCost 5 (some .int) [(0, 10, 13, 13)] ∈ W0 := W0_4 (i := 180) rfl rfl
set_option maxHeartbeats 1000000 in
theorem wl_setCost (l : Launch) (D : va_G) (cA : Nat → ClassId) (h ab ac ar : Nat → Nat) (hst : l.stackTraces = false) (a1 : Int32) (a2 : Int32) {S : ivS} {z : Bool} {w : va_W} (hI : ivI cA h ab ac ar S z w) (o : Nat) (f : Nat → Int64) : ConY l D cA yL_setCost (wmW yL_setCost cL_setCost 5 (some .int) [(0, 10, 13, 13)]) { frames := 7, cells := 1, slots := 6, locals := 139 } (w ++ [(o, .inl (cA 5, 1, .inr (.inl f)))]) [.ref (h 0), .int a1, .int a2, .ref o] 1 6 (PI (fun k w2 => ivL cA h ab ac ar o (s_setCost S a1 a2) k w2)) := by
  obtain ⟨fs, t, hw⟩ := hI.hd
  refine ConY.of (by decide) (Nat.le_of_ble_eq_true rfl) ?_
  intro p e s m args below meth c C hE hT hr
  refine k_eq (ws' := w ++ [(o, .inl (cA 5, 1, .inr (.inl f)))]) (lv' := [(0, .ref (h 0)), (1, .int a1), (2, .int a2), (3, .ref o)]) (st' := []) rfl rfl rfl ?_
  refine k_aload_n C 3 (pc := 0) dL_setCost_0 rfl rfl ?_
  refine k_iconst C (pc := 1) (v := (0 : Int32)) dL_setCost_1 rfl ?_
  refine k_aload_n C 0 (pc := 2) dL_setCost_2 rfl rfl ?_
  refine k_iload_n C 1 (pc := 3) dL_setCost_3 rfl rfl ?_
  refine k_iload_n C 2 (pc := 4) dL_setCost_4 rfl rfl ?_
  refine kx_onL C (pc := 5) (kx_runV C hE.1 (As := [.int a1, .int a2]) (rest := [.int (0 : Int32), .ref o]) (ci := 6) (q0 := 0) (xi_setCost l D cA h ab ac ar hst a1 a2 hI) ⟨k_cwB C tW_4_184 tW_4_181 tW_1_1 okX6_setCost rfl rfl ⟨Nat.le_of_ble_eq_true rfl, Nat.le_of_ble_eq_true rfl⟩, C.w tW_4_182, C.w tW_4_183⟩ (by rw [hw]; rfl) rfl rfl rfl rfl (Nat.le_of_ble_eq_true rfl) dL_setCost_5 ⟨Nat.le_of_ble_eq_true rfl, Nat.le_of_ble_eq_true rfl⟩) (fun v w1 h_ => by obtain ⟨r, rfl, h1⟩ := h_; exact h1.2.2.ad.trans hI.ad.symm) (fun E w1 h_ => by rcases h_ with ⟨-, h1⟩ <;> exact h1.2.ad.trans hI.ad.symm) (fun E w1 hx => ?_) (fun v w1 hv => ?_)
  · obtain ⟨rfl, h1, h2⟩ := hx
    refine ky_catch C (pc := 5) (pre := []) (suf := []) (0, 10, 13, 13) hT rfl (fun _ h_ => absurd h_ List.not_mem_nil) (by decide) (by decide) tW_3_10 (va_Nw.use rfl (hE.1.2.2.2.1 "java/lang/IllegalArgumentException" (List.mem_of_getElem? (i := 0) rfl))) (fun q_ => ?_)
    refine k_astore C (pc := 13) dL_setCost_13 (Nat.lt_of_lt_of_le (Nat.lt_succ_self _) (Nat.le_of_ble_eq_true rfl)) (lv' := [(4, .ref q_), (0, .ref (h 0)), (1, .int a1), (2, .int a2), (3, .ref o)]) rfl ?_
    refine k_iconst C (pc := 15) (v := (1 : Int32)) dL_setCost_15 rfl ?_
    exact kx_iret C (pc := 16) hr dL_setCost_16 (Nat.le_of_ble_eq_true rfl) (Nat.le_of_ble_eq_true rfl) ⟨h1.symm, w1, f, rfl, h2, fun q => absurd (h1.symm.trans q) (by decide)⟩
  · obtain ⟨r, rfl, h1, h2, h3⟩ := hv
    refine k_eq (pc := 8) (ws' := w1 ++ [(o, .inl (cA 5, 1, .inr (.inl f)))]) (st' := [.int r, .int (0 : Int32), .ref o]) rfl rfl rfl ?_
    refine k_i2l C (pc := 8) (v := r.toInt64) dL_setCost_8 rfl ?_
    refine k_last C (pc := 9) w1.length (cc_get _ _) (vp_in_nI (n := 0) (by decide) (by decide)) (ws' := w1 ++ [(o, .inl (cA 5, 1, .inr (.inl (vp_updL f (0 : Int32).toNatClampNeg r.toInt64))))]) (cc_set _ _ _) dL_setCost_9 ?_
    refine k_goto C (pc := 10) (tgt := 17) dL_setCost_10 (by decide) ?_
    refine k_iconst C (pc := 17) (v := (0 : Int32)) dL_setCost_17 rfl ?_
    exact kx_iret C (pc := 18) hr dL_setCost_18 (Nat.le_of_ble_eq_true rfl) (Nat.le_of_ble_eq_true rfl) ⟨h1.symm, w1, _, rfl, h3, fun _ => congrArg Int32.toInt64 h2⟩

/-! load -/
theorem dL_load_0 : decode cL_load 0 = .ok (.aload_n 2, 1) := by decide +kernel
theorem dL_load_1 : decode cL_load 1 = .ok (.iconst 0, 1) := by decide +kernel
theorem dL_load_2 : decode cL_load 2 = .ok (.aload_n 0, 1) := by decide +kernel
theorem dL_load_3 : decode cL_load 3 = .ok (.iload_n 1, 1) := by decide +kernel
theorem dL_load_4 : decode cL_load 4 = .ok (.invokevirtual 7, 3) := by decide +kernel
theorem dL_load_7 : decode cL_load 7 = .ok (.i2l, 1) := by decide +kernel
theorem dL_load_8 : decode cL_load 8 = .ok (.lastore, 1) := by decide +kernel
theorem dL_load_9 : decode cL_load 9 = .ok (.goto 6, 3) := by decide +kernel
theorem dL_load_12 : decode cL_load 12 = .ok (.astore_n 3, 1) := by decide +kernel
theorem dL_load_13 : decode cL_load 13 = .ok (.iconst 1, 1) := by decide +kernel
theorem dL_load_14 : decode cL_load 14 = .ok (.ireturn, 1) := by decide +kernel
theorem dL_load_15 : decode cL_load 15 = .ok (.iconst 0, 1) := by decide +kernel
theorem dL_load_16 : decode cL_load 16 = .ok (.ireturn, 1) := by decide +kernel
theorem okL_load : okY yL_load 3 := ⟨by decide +kernel, by decide +kernel, by decide +kernel⟩
theorem tYL_load : Cond.codeWith yL_load cL_load 4 (some .int) [(0, 9, 12, 13)] ∈ W0 := W0_3 (i := 9) rfl rfl
set_option maxHeartbeats 1000000 in
theorem wl_load (l : Launch) (D : va_G) (cA : Nat → ClassId) (h ab ac ar : Nat → Nat) (hst : l.stackTraces = false) (a1 : Int32) {S : ivS} {z : Bool} {w : va_W} (hI : ivI cA h ab ac ar S z w) (o : Nat) (f : Nat → Int64) : ConY l D cA yL_load (wmW yL_load cL_load 4 (some .int) [(0, 9, 12, 13)]) { frames := 9, cells := 1, slots := 6, locals := 200 } (w ++ [(o, .inl (cA 5, 1, .inr (.inl f)))]) [.ref (h 0), .int a1, .ref o] 1 6 (PI (fun k w2 => ivL cA h ab ac ar o (s_load S a1) k w2)) := by
  obtain ⟨fs, t, hw⟩ := hI.hd
  refine ConY.of (by decide) (Nat.le_of_ble_eq_true rfl) ?_
  intro p e s m args below meth c C hE hT hr
  refine k_eq (ws' := w ++ [(o, .inl (cA 5, 1, .inr (.inl f)))]) (lv' := [(0, .ref (h 0)), (1, .int a1), (2, .ref o)]) (st' := []) rfl rfl rfl ?_
  refine k_aload_n C 2 (pc := 0) dL_load_0 rfl rfl ?_
  refine k_iconst C (pc := 1) (v := (0 : Int32)) dL_load_1 rfl ?_
  refine k_aload_n C 0 (pc := 2) dL_load_2 rfl rfl ?_
  refine k_iload_n C 1 (pc := 3) dL_load_3 rfl rfl ?_
  refine kx_onL C (pc := 4) (kx_runV C hE.1 (As := [.int a1]) (rest := [.int (0 : Int32), .ref o]) (ci := 6) (q0 := 0) (xi_load l D cA h ab ac ar hst a1 hI) ⟨k_cwB C tW_3_14 tW_3_11 tW_1_1 okX6_load rfl rfl ⟨Nat.le_of_ble_eq_true rfl, Nat.le_of_ble_eq_true rfl⟩, C.w tW_3_12, C.w tW_3_13⟩ (by rw [hw]; rfl) rfl rfl rfl rfl (Nat.le_of_ble_eq_true rfl) dL_load_4 ⟨Nat.le_of_ble_eq_true rfl, Nat.le_of_ble_eq_true rfl⟩) (fun v w1 h_ => by obtain ⟨r, rfl, h1⟩ := h_; exact h1.2.2.ad.trans hI.ad.symm) (fun E w1 h_ => by rcases h_ with ⟨-, h1⟩ <;> exact h1.2.ad.trans hI.ad.symm) (fun E w1 hx => ?_) (fun v w1 hv => ?_)
  · obtain ⟨rfl, h1, h2⟩ := hx
    refine ky_catch C (pc := 4) (pre := []) (suf := []) (0, 9, 12, 13) hT rfl (fun _ h_ => absurd h_ List.not_mem_nil) (by decide) (by decide) tW_3_10 (va_Nw.use rfl (hE.1.2.2.2.1 "java/lang/IllegalArgumentException" (List.mem_of_getElem? (i := 0) rfl))) (fun q_ => ?_)
    refine k_astore_n C (pc := 12) dL_load_12 rfl (Nat.lt_of_lt_of_le (Nat.lt_succ_self _) (Nat.le_of_ble_eq_true rfl)) (lv' := [(3, .ref q_), (0, .ref (h 0)), (1, .int a1), (2, .ref o)]) rfl ?_
    refine k_iconst C (pc := 13) (v := (1 : Int32)) dL_load_13 rfl ?_
    exact kx_iret C (pc := 14) hr dL_load_14 (Nat.le_of_ble_eq_true rfl) (Nat.le_of_ble_eq_true rfl) ⟨h1.symm, w1, f, rfl, h2, fun q => absurd (h1.symm.trans q) (by decide)⟩
  · obtain ⟨r, rfl, h1, h2, h3⟩ := hv
    refine k_eq (pc := 7) (ws' := w1 ++ [(o, .inl (cA 5, 1, .inr (.inl f)))]) (st' := [.int r, .int (0 : Int32), .ref o]) rfl rfl rfl ?_
    refine k_i2l C (pc := 7) (v := r.toInt64) dL_load_7 rfl ?_
    refine k_last C (pc := 8) w1.length (cc_get _ _) (vp_in_nI (n := 0) (by decide) (by decide)) (ws' := w1 ++ [(o, .inl (cA 5, 1, .inr (.inl (vp_updL f (0 : Int32).toNatClampNeg r.toInt64))))]) (cc_set _ _ _) dL_load_8 ?_
    refine k_goto C (pc := 9) (tgt := 15) dL_load_9 (by decide) ?_
    refine k_iconst C (pc := 15) (v := (0 : Int32)) dL_load_15 rfl ?_
    exact kx_iret C (pc := 16) hr dL_load_16 (Nat.le_of_ble_eq_true rfl) (Nat.le_of_ble_eq_true rfl) ⟨h1.symm, w1, _, rfl, h3, fun _ => congrArg Int32.toInt64 h2⟩
