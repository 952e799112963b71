/-! THE CONSTRUCTORS -/
theorem sp_reset (f : Nat → Int32) : wpX0_reset 0 0 0 0 0 f (fun a b c d e f => a = 40 ∧ b = 10 ∧ c = 4 ∧ d = 1 ∧ e = 0 ∧ ∀ j, j < 6 → f j = uC j) :=
  copyRow_s (by decide) (by decide) (fun cs h => ⟨rfl, rfl, rfl, rfl, rfl, fun j hj => by rw [h j, if_pos (by omega)]⟩)
/-! WidowWatch$Lines.<init> -/
theorem dX2_init_0 : decode cX2_init 0 = .ok (.aload_n 0, 1) := by decide +kernel
theorem dX2_init_1 : decode cX2_init 1 = .ok (.invokespecial 3, 3) := by decide +kernel
theorem dX2_init_4 : decode cX2_init 4 = .ok (.aload_n 0, 1) := by decide +kernel
theorem dX2_init_5 : decode cX2_init 5 = .ok (.bipush 48, 2) := by decide +kernel
theorem dX2_init_7 : decode cX2_init 7 = .ok (.newarray .int, 2) := by decide +kernel
theorem dX2_init_9 : decode cX2_init 9 = .ok (.putfield 9, 3) := by decide +kernel
theorem dX2_init_12 : decode cX2_init 12 = .ok (.aload_n 0, 1) := by decide +kernel
theorem dX2_init_13 : decode cX2_init 13 = .ok (.sipush 1440, 3) := by decide +kernel
theorem dX2_init_16 : decode cX2_init 16 = .ok (.newarray .int, 2) := by decide +kernel
theorem dX2_init_18 : decode cX2_init 18 = .ok (.putfield 15, 3) := by decide +kernel
theorem dX2_init_21 : decode cX2_init 21 = .ok (.return_, 1) := by decide +kernel
theorem okX2_init : okY yX2_init 0 := ⟨by decide +kernel, by decide +kernel, by decide +kernel⟩
set_option maxHeartbeats 4000000 in
set_option maxRecDepth 100000 in
theorem conX2_init (l : Launch) (D : va_G) (cA : Nat → ClassId) (h_t : Nat) : Con l D cA yX2_init (wm yX2_init cX2_init 1 none) { frames := 1, cells := 2, slots := 1488, locals := 20 } [(h_t, .inr (2, [.null, .null]))] [.ref h_t] 2 1488 (PV (fun w1 => ∃ (q1 : Nat) (q2 : Nat), w1 = [(h_t, .inr (2, [.ref q1, .ref q2])), (q1, .inl (cA 0, 48, .inl (fun _ => 0))), (q2, .inl (cA 0, 1440, .inl (fun _ => 0)))])) := by
  refine Con.of (by decide) (Nat.le_of_ble_eq_true rfl) ?_
  intro p e s m args below meth c C hr hini
  refine k_eq (ws' := [(h_t, .inr (2, [.null, .null]))]) (lv' := [(0, .ref h_t)]) (st' := []) rfl rfl rfl ?_
  refine k_aload_n C 0 (pc := 0) dX2_init_0 rfl rfl ?_
  refine k_objInit C (pc := 1) tW_1_148 (Nat.le_of_ble_eq_true rfl) (Nat.le_of_ble_eq_true rfl) (Nat.le_of_ble_eq_true rfl) dX2_init_1 ?_
  refine k_aload_n C 0 (pc := 4) dX2_init_4 rfl rfl ?_
  refine k_bipush C (pc := 5) (v := (48 : Int32)) dX2_init_5 (by decide) ?_
  refine k_newa C (pc := 7) (N := 48) (by decide) (by decide) (Nat.le_of_ble_eq_true rfl) (Nat.le_of_ble_eq_true rfl) (Nat.le_of_ble_eq_true rfl) dX2_init_7 (fun q1 => ?_)
  refine k_eq (pc := 9) (ws' := [(h_t, .inr (2, [.null, .null])), (q1, .inl (cA 0, 48, .inl (fun _ => 0)))]) rfl rfl rfl ?_
  refine k_putF C (pc := 9) inW_X2 tyX2 tyX2_ok nmX2 0 0 rfl rfl (Nat.lt_of_lt_of_le (Nat.lt_succ_self _) (Nat.le_of_ble_eq_true rfl)) (ref := "WidowWatch$Lines") tW_1_149 rfl rfl hini rfl rfl rfl rfl (Nat.lt_of_lt_of_le (Nat.lt_succ_self _) (Nat.le_of_ble_eq_true rfl)) (fs' := [.ref q1, .null]) rfl (ws' := [(h_t, .inr (2, [.ref q1, .null])), (q1, .inl (cA 0, 48, .inl (fun _ => 0)))]) rfl dX2_init_9 ?_
  refine k_aload_n C 0 (pc := 12) dX2_init_12 rfl rfl ?_
  refine k_sipush C (pc := 13) (v := (1440 : Int32)) dX2_init_13 (by decide) ?_
  refine k_newa C (pc := 16) (N := 1440) (by decide) (by decide) (Nat.le_of_ble_eq_true rfl) (Nat.le_of_ble_eq_true rfl) (Nat.le_of_ble_eq_true rfl) dX2_init_16 (fun q2 => ?_)
  refine k_eq (pc := 18) (ws' := [(h_t, .inr (2, [.ref q1, .null])), (q1, .inl (cA 0, 48, .inl (fun _ => 0))), (q2, .inl (cA 0, 1440, .inl (fun _ => 0)))]) rfl rfl rfl ?_
  refine k_putF C (pc := 18) inW_X2 tyX2 tyX2_ok nmX2 0 1 rfl rfl (Nat.lt_of_lt_of_le (Nat.lt_succ_self _) (Nat.le_of_ble_eq_true rfl)) (ref := "WidowWatch$Lines") tW_1_150 rfl rfl hini rfl rfl rfl rfl (Nat.lt_of_lt_of_le (Nat.lt_succ_self _) (Nat.le_of_ble_eq_true rfl)) (fs' := [.ref q1, .ref q2]) rfl (ws' := [(h_t, .inr (2, [.ref q1, .ref q2])), (q1, .inl (cA 0, 48, .inl (fun _ => 0))), (q2, .inl (cA 0, 1440, .inl (fun _ => 0)))]) rfl dX2_init_18 ?_
  exact k_vret C hr dX2_init_21 ⟨_, _, rfl⟩
/-! WidowWatch$Plan.<init> -/
theorem dX3_init_0 : decode cX3_init 0 = .ok (.aload_n 0, 1) := by decide +kernel
theorem dX3_init_1 : decode cX3_init 1 = .ok (.invokespecial 3, 3) := by decide +kernel
theorem dX3_init_4 : decode cX3_init 4 = .ok (.aload_n 0, 1) := by decide +kernel
theorem dX3_init_5 : decode cX3_init 5 = .ok (.iconst 0, 1) := by decide +kernel
theorem dX3_init_6 : decode cX3_init 6 = .ok (.putfield 9, 3) := by decide +kernel
theorem dX3_init_9 : decode cX3_init 9 = .ok (.aload_n 0, 1) := by decide +kernel
theorem dX3_init_10 : decode cX3_init 10 = .ok (.iconst 0, 1) := by decide +kernel
theorem dX3_init_11 : decode cX3_init 11 = .ok (.putfield 15, 3) := by decide +kernel
theorem dX3_init_14 : decode cX3_init 14 = .ok (.aload_n 0, 1) := by decide +kernel
theorem dX3_init_15 : decode cX3_init 15 = .ok (.bipush 16, 2) := by decide +kernel
theorem dX3_init_17 : decode cX3_init 17 = .ok (.newarray .int, 2) := by decide +kernel
theorem dX3_init_19 : decode cX3_init 19 = .ok (.putfield 18, 3) := by decide +kernel
theorem dX3_init_22 : decode cX3_init 22 = .ok (.aload_n 0, 1) := by decide +kernel
theorem dX3_init_23 : decode cX3_init 23 = .ok (.bipush 16, 2) := by decide +kernel
theorem dX3_init_25 : decode cX3_init 25 = .ok (.newarray .int, 2) := by decide +kernel
theorem dX3_init_27 : decode cX3_init 27 = .ok (.putfield 22, 3) := by decide +kernel
theorem dX3_init_30 : decode cX3_init 30 = .ok (.aload_n 0, 1) := by decide +kernel
theorem dX3_init_31 : decode cX3_init 31 = .ok (.sipush 480, 3) := by decide +kernel
theorem dX3_init_34 : decode cX3_init 34 = .ok (.newarray .int, 2) := by decide +kernel
theorem dX3_init_36 : decode cX3_init 36 = .ok (.putfield 25, 3) := by decide +kernel
theorem dX3_init_39 : decode cX3_init 39 = .ok (.aload_n 0, 1) := by decide +kernel
theorem dX3_init_40 : decode cX3_init 40 = .ok (.sipush 480, 3) := by decide +kernel
theorem dX3_init_43 : decode cX3_init 43 = .ok (.newarray .int, 2) := by decide +kernel
theorem dX3_init_45 : decode cX3_init 45 = .ok (.putfield 28, 3) := by decide +kernel
theorem dX3_init_48 : decode cX3_init 48 = .ok (.aload_n 0, 1) := by decide +kernel
theorem dX3_init_49 : decode cX3_init 49 = .ok (.sipush 480, 3) := by decide +kernel
theorem dX3_init_52 : decode cX3_init 52 = .ok (.newarray .int, 2) := by decide +kernel
theorem dX3_init_54 : decode cX3_init 54 = .ok (.putfield 31, 3) := by decide +kernel
theorem dX3_init_57 : decode cX3_init 57 = .ok (.return_, 1) := by decide +kernel
theorem okX3_init : okY yX3_init 0 := ⟨by decide +kernel, by decide +kernel, by decide +kernel⟩
set_option maxHeartbeats 4000000 in
set_option maxRecDepth 100000 in
theorem conX3_init (l : Launch) (D : va_G) (cA : Nat → ClassId) (h_t : Nat) : Con l D cA yX3_init (wm yX3_init cX3_init 1 none) { frames := 1, cells := 5, slots := 1472, locals := 20 } [(h_t, .inr (3, [.int 0, .int 0, .null, .null, .null, .null, .null]))] [.ref h_t] 5 1472 (PV (fun w1 => ∃ (q1 : Nat) (q2 : Nat) (q3 : Nat) (q4 : Nat) (q5 : Nat), w1 = [(h_t, .inr (3, [.int (0 : Int32), .int (0 : Int32), .ref q1, .ref q2, .ref q3, .ref q4, .ref q5])), (q1, .inl (cA 0, 16, .inl (fun _ => 0))), (q2, .inl (cA 0, 16, .inl (fun _ => 0))), (q3, .inl (cA 0, 480, .inl (fun _ => 0))), (q4, .inl (cA 0, 480, .inl (fun _ => 0))), (q5, .inl (cA 0, 480, .inl (fun _ => 0)))])) := by
  refine Con.of (by decide) (Nat.le_of_ble_eq_true rfl) ?_
  intro p e s m args below meth c C hr hini
  refine k_eq (ws' := [(h_t, .inr (3, [.int 0, .int 0, .null, .null, .null, .null, .null]))]) (lv' := [(0, .ref h_t)]) (st' := []) rfl rfl rfl ?_
  refine k_aload_n C 0 (pc := 0) dX3_init_0 rfl rfl ?_
  refine k_objInit C (pc := 1) tW_1_180 (Nat.le_of_ble_eq_true rfl) (Nat.le_of_ble_eq_true rfl) (Nat.le_of_ble_eq_true rfl) dX3_init_1 ?_
  refine k_aload_n C 0 (pc := 4) dX3_init_4 rfl rfl ?_
  refine k_iconst C (pc := 5) (v := (0 : Int32)) dX3_init_5 rfl ?_
  refine k_put C (pc := 6) inW_X3 tyX3 tyX3_ok nmX3 0 0 rfl rfl (Nat.lt_of_lt_of_le (Nat.lt_succ_self _) (Nat.le_of_ble_eq_true rfl)) (ref := "WidowWatch$Plan") tW_1_181 rfl rfl rfl (ty := .int) rfl rfl (Nat.lt_of_lt_of_le (Nat.lt_succ_self _) (Nat.le_of_ble_eq_true rfl)) (fs' := [.int (0 : Int32), .int 0, .null, .null, .null, .null, .null]) rfl (ws' := [(h_t, .inr (3, [.int (0 : Int32), .int 0, .null, .null, .null, .null, .null]))]) rfl dX3_init_6 ?_
  refine k_aload_n C 0 (pc := 9) dX3_init_9 rfl rfl ?_
  refine k_iconst C (pc := 10) (v := (0 : Int32)) dX3_init_10 rfl ?_
  refine k_put C (pc := 11) inW_X3 tyX3 tyX3_ok nmX3 0 1 rfl rfl (Nat.lt_of_lt_of_le (Nat.lt_succ_self _) (Nat.le_of_ble_eq_true rfl)) (ref := "WidowWatch$Plan") tW_1_183 rfl rfl rfl (ty := .int) rfl rfl (Nat.lt_of_lt_of_le (Nat.lt_succ_self _) (Nat.le_of_ble_eq_true rfl)) (fs' := [.int (0 : Int32), .int (0 : Int32), .null, .null, .null, .null, .null]) rfl (ws' := [(h_t, .inr (3, [.int (0 : Int32), .int (0 : Int32), .null, .null, .null, .null, .null]))]) rfl dX3_init_11 ?_
  refine k_aload_n C 0 (pc := 14) dX3_init_14 rfl rfl ?_
  refine k_bipush C (pc := 15) (v := (16 : Int32)) dX3_init_15 (by decide) ?_
  refine k_newa C (pc := 17) (N := 16) (by decide) (by decide) (Nat.le_of_ble_eq_true rfl) (Nat.le_of_ble_eq_true rfl) (Nat.le_of_ble_eq_true rfl) dX3_init_17 (fun q1 => ?_)
  refine k_eq (pc := 19) (ws' := [(h_t, .inr (3, [.int (0 : Int32), .int (0 : Int32), .null, .null, .null, .null, .null])), (q1, .inl (cA 0, 16, .inl (fun _ => 0)))]) rfl rfl rfl ?_
  refine k_putF C (pc := 19) inW_X3 tyX3 tyX3_ok nmX3 0 2 rfl rfl (Nat.lt_of_lt_of_le (Nat.lt_succ_self _) (Nat.le_of_ble_eq_true rfl)) (ref := "WidowWatch$Plan") tW_1_184 rfl rfl hini rfl rfl rfl rfl (Nat.lt_of_lt_of_le (Nat.lt_succ_self _) (Nat.le_of_ble_eq_true rfl)) (fs' := [.int (0 : Int32), .int (0 : Int32), .ref q1, .null, .null, .null, .null]) rfl (ws' := [(h_t, .inr (3, [.int (0 : Int32), .int (0 : Int32), .ref q1, .null, .null, .null, .null])), (q1, .inl (cA 0, 16, .inl (fun _ => 0)))]) rfl dX3_init_19 ?_
  refine k_aload_n C 0 (pc := 22) dX3_init_22 rfl rfl ?_
  refine k_bipush C (pc := 23) (v := (16 : Int32)) dX3_init_23 (by decide) ?_
  refine k_newa C (pc := 25) (N := 16) (by decide) (by decide) (Nat.le_of_ble_eq_true rfl) (Nat.le_of_ble_eq_true rfl) (Nat.le_of_ble_eq_true rfl) dX3_init_25 (fun q2 => ?_)
  refine k_eq (pc := 27) (ws' := [(h_t, .inr (3, [.int (0 : Int32), .int (0 : Int32), .ref q1, .null, .null, .null, .null])), (q1, .inl (cA 0, 16, .inl (fun _ => 0))), (q2, .inl (cA 0, 16, .inl (fun _ => 0)))]) rfl rfl rfl ?_
  refine k_putF C (pc := 27) inW_X3 tyX3 tyX3_ok nmX3 0 3 rfl rfl (Nat.lt_of_lt_of_le (Nat.lt_succ_self _) (Nat.le_of_ble_eq_true rfl)) (ref := "WidowWatch$Plan") tW_1_185 rfl rfl hini rfl rfl rfl rfl (Nat.lt_of_lt_of_le (Nat.lt_succ_self _) (Nat.le_of_ble_eq_true rfl)) (fs' := [.int (0 : Int32), .int (0 : Int32), .ref q1, .ref q2, .null, .null, .null]) rfl (ws' := [(h_t, .inr (3, [.int (0 : Int32), .int (0 : Int32), .ref q1, .ref q2, .null, .null, .null])), (q1, .inl (cA 0, 16, .inl (fun _ => 0))), (q2, .inl (cA 0, 16, .inl (fun _ => 0)))]) rfl dX3_init_27 ?_
  refine k_aload_n C 0 (pc := 30) dX3_init_30 rfl rfl ?_
  refine k_sipush C (pc := 31) (v := (480 : Int32)) dX3_init_31 (by decide) ?_
  refine k_newa C (pc := 34) (N := 480) (by decide) (by decide) (Nat.le_of_ble_eq_true rfl) (Nat.le_of_ble_eq_true rfl) (Nat.le_of_ble_eq_true rfl) dX3_init_34 (fun q3 => ?_)
  refine k_eq (pc := 36) (ws' := [(h_t, .inr (3, [.int (0 : Int32), .int (0 : Int32), .ref q1, .ref q2, .null, .null, .null])), (q1, .inl (cA 0, 16, .inl (fun _ => 0))), (q2, .inl (cA 0, 16, .inl (fun _ => 0))), (q3, .inl (cA 0, 480, .inl (fun _ => 0)))]) rfl rfl rfl ?_
  refine k_putF C (pc := 36) inW_X3 tyX3 tyX3_ok nmX3 0 4 rfl rfl (Nat.lt_of_lt_of_le (Nat.lt_succ_self _) (Nat.le_of_ble_eq_true rfl)) (ref := "WidowWatch$Plan") tW_1_186 rfl rfl hini rfl rfl rfl rfl (Nat.lt_of_lt_of_le (Nat.lt_succ_self _) (Nat.le_of_ble_eq_true rfl)) (fs' := [.int (0 : Int32), .int (0 : Int32), .ref q1, .ref q2, .ref q3, .null, .null]) rfl (ws' := [(h_t, .inr (3, [.int (0 : Int32), .int (0 : Int32), .ref q1, .ref q2, .ref q3, .null, .null])), (q1, .inl (cA 0, 16, .inl (fun _ => 0))), (q2, .inl (cA 0, 16, .inl (fun _ => 0))), (q3, .inl (cA 0, 480, .inl (fun _ => 0)))]) rfl dX3_init_36 ?_
  refine k_aload_n C 0 (pc := 39) dX3_init_39 rfl rfl ?_
  refine k_sipush C (pc := 40) (v := (480 : Int32)) dX3_init_40 (by decide) ?_
  refine k_newa C (pc := 43) (N := 480) (by decide) (by decide) (Nat.le_of_ble_eq_true rfl) (Nat.le_of_ble_eq_true rfl) (Nat.le_of_ble_eq_true rfl) dX3_init_43 (fun q4 => ?_)
  refine k_eq (pc := 45) (ws' := [(h_t, .inr (3, [.int (0 : Int32), .int (0 : Int32), .ref q1, .ref q2, .ref q3, .null, .null])), (q1, .inl (cA 0, 16, .inl (fun _ => 0))), (q2, .inl (cA 0, 16, .inl (fun _ => 0))), (q3, .inl (cA 0, 480, .inl (fun _ => 0))), (q4, .inl (cA 0, 480, .inl (fun _ => 0)))]) rfl rfl rfl ?_
  refine k_putF C (pc := 45) inW_X3 tyX3 tyX3_ok nmX3 0 5 rfl rfl (Nat.lt_of_lt_of_le (Nat.lt_succ_self _) (Nat.le_of_ble_eq_true rfl)) (ref := "WidowWatch$Plan") tW_1_187 rfl rfl hini rfl rfl rfl rfl (Nat.lt_of_lt_of_le (Nat.lt_succ_self _) (Nat.le_of_ble_eq_true rfl)) (fs' := [.int (0 : Int32), .int (0 : Int32), .ref q1, .ref q2, .ref q3, .ref q4, .null]) rfl (ws' := [(h_t, .inr (3, [.int (0 : Int32), .int (0 : Int32), .ref q1, .ref q2, .ref q3, .ref q4, .null])), (q1, .inl (cA 0, 16, .inl (fun _ => 0))), (q2, .inl (cA 0, 16, .inl (fun _ => 0))), (q3, .inl (cA 0, 480, .inl (fun _ => 0))), (q4, .inl (cA 0, 480, .inl (fun _ => 0)))]) rfl dX3_init_45 ?_
  refine k_aload_n C 0 (pc := 48) dX3_init_48 rfl rfl ?_
  refine k_sipush C (pc := 49) (v := (480 : Int32)) dX3_init_49 (by decide) ?_
  refine k_newa C (pc := 52) (N := 480) (by decide) (by decide) (Nat.le_of_ble_eq_true rfl) (Nat.le_of_ble_eq_true rfl) (Nat.le_of_ble_eq_true rfl) dX3_init_52 (fun q5 => ?_)
  refine k_eq (pc := 54) (ws' := [(h_t, .inr (3, [.int (0 : Int32), .int (0 : Int32), .ref q1, .ref q2, .ref q3, .ref q4, .null])), (q1, .inl (cA 0, 16, .inl (fun _ => 0))), (q2, .inl (cA 0, 16, .inl (fun _ => 0))), (q3, .inl (cA 0, 480, .inl (fun _ => 0))), (q4, .inl (cA 0, 480, .inl (fun _ => 0))), (q5, .inl (cA 0, 480, .inl (fun _ => 0)))]) rfl rfl rfl ?_
  refine k_putF C (pc := 54) inW_X3 tyX3 tyX3_ok nmX3 0 6 rfl rfl (Nat.lt_of_lt_of_le (Nat.lt_succ_self _) (Nat.le_of_ble_eq_true rfl)) (ref := "WidowWatch$Plan") tW_1_188 rfl rfl hini rfl rfl rfl rfl (Nat.lt_of_lt_of_le (Nat.lt_succ_self _) (Nat.le_of_ble_eq_true rfl)) (fs' := [.int (0 : Int32), .int (0 : Int32), .ref q1, .ref q2, .ref q3, .ref q4, .ref q5]) rfl (ws' := [(h_t, .inr (3, [.int (0 : Int32), .int (0 : Int32), .ref q1, .ref q2, .ref q3, .ref q4, .ref q5])), (q1, .inl (cA 0, 16, .inl (fun _ => 0))), (q2, .inl (cA 0, 16, .inl (fun _ => 0))), (q3, .inl (cA 0, 480, .inl (fun _ => 0))), (q4, .inl (cA 0, 480, .inl (fun _ => 0))), (q5, .inl (cA 0, 480, .inl (fun _ => 0)))]) rfl dX3_init_54 ?_
  exact k_vret C hr dX3_init_57 ⟨_, _, _, _, _, rfl⟩
/-! WidowWatch$Planner.<init> -/
theorem dX4_init_0 : decode cX4_init 0 = .ok (.aload_n 0, 1) := by decide +kernel
theorem dX4_init_1 : decode cX4_init 1 = .ok (.invokespecial 3, 3) := by decide +kernel
theorem dX4_init_4 : decode cX4_init 4 = .ok (.aload_n 0, 1) := by decide +kernel
theorem dX4_init_5 : decode cX4_init 5 = .ok (.sipush 697, 3) := by decide +kernel
theorem dX4_init_8 : decode cX4_init 8 = .ok (.newarray .int, 2) := by decide +kernel
theorem dX4_init_10 : decode cX4_init 10 = .ok (.putfield 11, 3) := by decide +kernel
theorem dX4_init_13 : decode cX4_init 13 = .ok (.aload_n 0, 1) := by decide +kernel
theorem dX4_init_14 : decode cX4_init 14 = .ok (.sipush 656, 3) := by decide +kernel
theorem dX4_init_17 : decode cX4_init 17 = .ok (.newarray .int, 2) := by decide +kernel
theorem dX4_init_19 : decode cX4_init 19 = .ok (.putfield 15, 3) := by decide +kernel
theorem dX4_init_22 : decode cX4_init 22 = .ok (.aload_n 0, 1) := by decide +kernel
theorem dX4_init_23 : decode cX4_init 23 = .ok (.sipush 1271, 3) := by decide +kernel
theorem dX4_init_26 : decode cX4_init 26 = .ok (.newarray .int, 2) := by decide +kernel
theorem dX4_init_28 : decode cX4_init 28 = .ok (.putfield 18, 3) := by decide +kernel
theorem dX4_init_31 : decode cX4_init 31 = .ok (.aload_n 0, 1) := by decide +kernel
theorem dX4_init_32 : decode cX4_init 32 = .ok (.sipush 1230, 3) := by decide +kernel
theorem dX4_init_35 : decode cX4_init 35 = .ok (.newarray .int, 2) := by decide +kernel
theorem dX4_init_37 : decode cX4_init 37 = .ok (.putfield 21, 3) := by decide +kernel
theorem dX4_init_40 : decode cX4_init 40 = .ok (.return_, 1) := by decide +kernel
theorem okX4_init : okY yX4_init 0 := ⟨by decide +kernel, by decide +kernel, by decide +kernel⟩
set_option maxHeartbeats 4000000 in
set_option maxRecDepth 100000 in
theorem conX4_init (l : Launch) (D : va_G) (cA : Nat → ClassId) (h_t : Nat) : Con l D cA yX4_init (wm yX4_init cX4_init 1 none) { frames := 1, cells := 4, slots := 3854, locals := 20 } [(h_t, .inr (4, [.null, .null, .null, .null]))] [.ref h_t] 4 3854 (PV (fun w1 => ∃ (q1 : Nat) (q2 : Nat) (q3 : Nat) (q4 : Nat), w1 = [(h_t, .inr (4, [.ref q1, .ref q2, .ref q3, .ref q4])), (q1, .inl (cA 0, 697, .inl (fun _ => 0))), (q2, .inl (cA 0, 656, .inl (fun _ => 0))), (q3, .inl (cA 0, 1271, .inl (fun _ => 0))), (q4, .inl (cA 0, 1230, .inl (fun _ => 0)))])) := by
  refine Con.of (by decide) (Nat.le_of_ble_eq_true rfl) ?_
  intro p e s m args below meth c C hr hini
  refine k_eq (ws' := [(h_t, .inr (4, [.null, .null, .null, .null]))]) (lv' := [(0, .ref h_t)]) (st' := []) rfl rfl rfl ?_
  refine k_aload_n C 0 (pc := 0) dX4_init_0 rfl rfl ?_
  refine k_objInit C (pc := 1) tW_1_161 (Nat.le_of_ble_eq_true rfl) (Nat.le_of_ble_eq_true rfl) (Nat.le_of_ble_eq_true rfl) dX4_init_1 ?_
  refine k_aload_n C 0 (pc := 4) dX4_init_4 rfl rfl ?_
  refine k_sipush C (pc := 5) (v := (697 : Int32)) dX4_init_5 (by decide) ?_
  refine k_newa C (pc := 8) (N := 697) (by decide) (by decide) (Nat.le_of_ble_eq_true rfl) (Nat.le_of_ble_eq_true rfl) (Nat.le_of_ble_eq_true rfl) dX4_init_8 (fun q1 => ?_)
  refine k_eq (pc := 10) (ws' := [(h_t, .inr (4, [.null, .null, .null, .null])), (q1, .inl (cA 0, 697, .inl (fun _ => 0)))]) rfl rfl rfl ?_
  refine k_putF C (pc := 10) inW_X4 tyX4 tyX4_ok nmX4 0 0 rfl rfl (Nat.lt_of_lt_of_le (Nat.lt_succ_self _) (Nat.le_of_ble_eq_true rfl)) (ref := "WidowWatch$Planner") tW_1_162 rfl rfl hini rfl rfl rfl rfl (Nat.lt_of_lt_of_le (Nat.lt_succ_self _) (Nat.le_of_ble_eq_true rfl)) (fs' := [.ref q1, .null, .null, .null]) rfl (ws' := [(h_t, .inr (4, [.ref q1, .null, .null, .null])), (q1, .inl (cA 0, 697, .inl (fun _ => 0)))]) rfl dX4_init_10 ?_
  refine k_aload_n C 0 (pc := 13) dX4_init_13 rfl rfl ?_
  refine k_sipush C (pc := 14) (v := (656 : Int32)) dX4_init_14 (by decide) ?_
  refine k_newa C (pc := 17) (N := 656) (by decide) (by decide) (Nat.le_of_ble_eq_true rfl) (Nat.le_of_ble_eq_true rfl) (Nat.le_of_ble_eq_true rfl) dX4_init_17 (fun q2 => ?_)
  refine k_eq (pc := 19) (ws' := [(h_t, .inr (4, [.ref q1, .null, .null, .null])), (q1, .inl (cA 0, 697, .inl (fun _ => 0))), (q2, .inl (cA 0, 656, .inl (fun _ => 0)))]) rfl rfl rfl ?_
  refine k_putF C (pc := 19) inW_X4 tyX4 tyX4_ok nmX4 0 1 rfl rfl (Nat.lt_of_lt_of_le (Nat.lt_succ_self _) (Nat.le_of_ble_eq_true rfl)) (ref := "WidowWatch$Planner") tW_1_163 rfl rfl hini rfl rfl rfl rfl (Nat.lt_of_lt_of_le (Nat.lt_succ_self _) (Nat.le_of_ble_eq_true rfl)) (fs' := [.ref q1, .ref q2, .null, .null]) rfl (ws' := [(h_t, .inr (4, [.ref q1, .ref q2, .null, .null])), (q1, .inl (cA 0, 697, .inl (fun _ => 0))), (q2, .inl (cA 0, 656, .inl (fun _ => 0)))]) rfl dX4_init_19 ?_
  refine k_aload_n C 0 (pc := 22) dX4_init_22 rfl rfl ?_
  refine k_sipush C (pc := 23) (v := (1271 : Int32)) dX4_init_23 (by decide) ?_
  refine k_newa C (pc := 26) (N := 1271) (by decide) (by decide) (Nat.le_of_ble_eq_true rfl) (Nat.le_of_ble_eq_true rfl) (Nat.le_of_ble_eq_true rfl) dX4_init_26 (fun q3 => ?_)
  refine k_eq (pc := 28) (ws' := [(h_t, .inr (4, [.ref q1, .ref q2, .null, .null])), (q1, .inl (cA 0, 697, .inl (fun _ => 0))), (q2, .inl (cA 0, 656, .inl (fun _ => 0))), (q3, .inl (cA 0, 1271, .inl (fun _ => 0)))]) rfl rfl rfl ?_
  refine k_putF C (pc := 28) inW_X4 tyX4 tyX4_ok nmX4 0 2 rfl rfl (Nat.lt_of_lt_of_le (Nat.lt_succ_self _) (Nat.le_of_ble_eq_true rfl)) (ref := "WidowWatch$Planner") tW_1_164 rfl rfl hini rfl rfl rfl rfl (Nat.lt_of_lt_of_le (Nat.lt_succ_self _) (Nat.le_of_ble_eq_true rfl)) (fs' := [.ref q1, .ref q2, .ref q3, .null]) rfl (ws' := [(h_t, .inr (4, [.ref q1, .ref q2, .ref q3, .null])), (q1, .inl (cA 0, 697, .inl (fun _ => 0))), (q2, .inl (cA 0, 656, .inl (fun _ => 0))), (q3, .inl (cA 0, 1271, .inl (fun _ => 0)))]) rfl dX4_init_28 ?_
  refine k_aload_n C 0 (pc := 31) dX4_init_31 rfl rfl ?_
  refine k_sipush C (pc := 32) (v := (1230 : Int32)) dX4_init_32 (by decide) ?_
  refine k_newa C (pc := 35) (N := 1230) (by decide) (by decide) (Nat.le_of_ble_eq_true rfl) (Nat.le_of_ble_eq_true rfl) (Nat.le_of_ble_eq_true rfl) dX4_init_35 (fun q4 => ?_)
  refine k_eq (pc := 37) (ws' := [(h_t, .inr (4, [.ref q1, .ref q2, .ref q3, .null])), (q1, .inl (cA 0, 697, .inl (fun _ => 0))), (q2, .inl (cA 0, 656, .inl (fun _ => 0))), (q3, .inl (cA 0, 1271, .inl (fun _ => 0))), (q4, .inl (cA 0, 1230, .inl (fun _ => 0)))]) rfl rfl rfl ?_
  refine k_putF C (pc := 37) inW_X4 tyX4 tyX4_ok nmX4 0 3 rfl rfl (Nat.lt_of_lt_of_le (Nat.lt_succ_self _) (Nat.le_of_ble_eq_true rfl)) (ref := "WidowWatch$Planner") tW_1_165 rfl rfl hini rfl rfl rfl rfl (Nat.lt_of_lt_of_le (Nat.lt_succ_self _) (Nat.le_of_ble_eq_true rfl)) (fs' := [.ref q1, .ref q2, .ref q3, .ref q4]) rfl (ws' := [(h_t, .inr (4, [.ref q1, .ref q2, .ref q3, .ref q4])), (q1, .inl (cA 0, 697, .inl (fun _ => 0))), (q2, .inl (cA 0, 656, .inl (fun _ => 0))), (q3, .inl (cA 0, 1271, .inl (fun _ => 0))), (q4, .inl (cA 0, 1230, .inl (fun _ => 0)))]) rfl dX4_init_37 ?_
  exact k_vret C hr dX4_init_40 ⟨_, _, _, _, rfl⟩
/-! WidowWatch$Book.<init> -/
theorem dX0_init_0 : decode cX0_init 0 = .ok (.aload_n 0, 1) := by decide +kernel
theorem dX0_init_1 : decode cX0_init 1 = .ok (.invokespecial 5, 3) := by decide +kernel
theorem dX0_init_4 : decode cX0_init 4 = .ok (.aload_n 0, 1) := by decide +kernel
theorem dX0_init_5 : decode cX0_init 5 = .ok (.bipush 6, 2) := by decide +kernel
theorem dX0_init_7 : decode cX0_init 7 = .ok (.newarray .int, 2) := by decide +kernel
theorem dX0_init_9 : decode cX0_init 9 = .ok (.putfield 11, 3) := by decide +kernel
theorem dX0_init_12 : decode cX0_init 12 = .ok (.aload_n 0, 1) := by decide +kernel
theorem dX0_init_13 : decode cX0_init 13 = .ok (.sipush 544, 3) := by decide +kernel
theorem dX0_init_16 : decode cX0_init 16 = .ok (.newarray .int, 2) := by decide +kernel
theorem dX0_init_18 : decode cX0_init 18 = .ok (.putfield 15, 3) := by decide +kernel
theorem dX0_init_21 : decode cX0_init 21 = .ok (.aload_n 0, 1) := by decide +kernel
theorem dX0_init_22 : decode cX0_init 22 = .ok (.invokevirtual 18, 3) := by decide +kernel
theorem dX0_init_25 : decode cX0_init 25 = .ok (.return_, 1) := by decide +kernel
theorem okX0_init : okY yX0_init 0 := ⟨by decide +kernel, by decide +kernel, by decide +kernel⟩
set_option maxHeartbeats 4000000 in
set_option maxRecDepth 100000 in
theorem conX0_init (l : Launch) (D : va_G) (cA : Nat → ClassId) (h_t : Nat) : Con l D cA yX0_init (wm yX0_init cX0_init 1 none) { frames := 2, cells := 2, slots := 550, locals := 42 } [(h_t, .inr (0, [.int 0, .int 0, .int 0, .int 0, .int 0, .null, .null]))] [.ref h_t] 2 550 (PV (fun w1 => ∃ (q1 : Nat) (q2 : Nat) (f_ : Nat → Int32), w1 = [(h_t, .inr (0, [.int 40, .int 10, .int 4, .int 1, .int 0, .ref q1, .ref q2])), (q1, .inl (cA 0, 6, .inl (f_))), (q2, .inl (cA 0, 544, .inl (fun _ => 0)))] ∧ (∀ j, j < 6 → f_ j = uC j))) := by
  refine Con.of (by decide) (Nat.le_of_ble_eq_true rfl) ?_
  intro p e s m args below meth c C hr hini
  refine k_eq (ws' := [(h_t, .inr (0, [.int 0, .int 0, .int 0, .int 0, .int 0, .null, .null]))]) (lv' := [(0, .ref h_t)]) (st' := []) rfl rfl rfl ?_
  refine k_aload_n C 0 (pc := 0) dX0_init_0 rfl rfl ?_
  refine k_objInit C (pc := 1) tW_1_44 (Nat.le_of_ble_eq_true rfl) (Nat.le_of_ble_eq_true rfl) (Nat.le_of_ble_eq_true rfl) dX0_init_1 ?_
  refine k_aload_n C 0 (pc := 4) dX0_init_4 rfl rfl ?_
  refine k_bipush C (pc := 5) (v := (6 : Int32)) dX0_init_5 (by decide) ?_
  refine k_newa C (pc := 7) (N := 6) (by decide) (by decide) (Nat.le_of_ble_eq_true rfl) (Nat.le_of_ble_eq_true rfl) (Nat.le_of_ble_eq_true rfl) dX0_init_7 (fun q1 => ?_)
  refine k_eq (pc := 9) (ws' := [(h_t, .inr (0, [.int 0, .int 0, .int 0, .int 0, .int 0, .null, .null])), (q1, .inl (cA 0, 6, .inl (fun _ => 0)))]) rfl rfl rfl ?_
  refine k_putF C (pc := 9) inW_X0 tyX0 tyX0_ok nmX0 0 5 rfl rfl (Nat.lt_of_lt_of_le (Nat.lt_succ_self _) (Nat.le_of_ble_eq_true rfl)) (ref := "WidowWatch$Book") tW_1_69 rfl rfl hini rfl rfl rfl rfl (Nat.lt_of_lt_of_le (Nat.lt_succ_self _) (Nat.le_of_ble_eq_true rfl)) (fs' := [.int 0, .int 0, .int 0, .int 0, .int 0, .ref q1, .null]) rfl (ws' := [(h_t, .inr (0, [.int 0, .int 0, .int 0, .int 0, .int 0, .ref q1, .null])), (q1, .inl (cA 0, 6, .inl (fun _ => 0)))]) rfl dX0_init_9 ?_
  refine k_aload_n C 0 (pc := 12) dX0_init_12 rfl rfl ?_
  refine k_sipush C (pc := 13) (v := (544 : Int32)) dX0_init_13 (by decide) ?_
  refine k_newa C (pc := 16) (N := 544) (by decide) (by decide) (Nat.le_of_ble_eq_true rfl) (Nat.le_of_ble_eq_true rfl) (Nat.le_of_ble_eq_true rfl) dX0_init_16 (fun q2 => ?_)
  refine k_eq (pc := 18) (ws' := [(h_t, .inr (0, [.int 0, .int 0, .int 0, .int 0, .int 0, .ref q1, .null])), (q1, .inl (cA 0, 6, .inl (fun _ => 0))), (q2, .inl (cA 0, 544, .inl (fun _ => 0)))]) rfl rfl rfl ?_
  refine k_putF C (pc := 18) inW_X0 tyX0 tyX0_ok nmX0 0 6 rfl rfl (Nat.lt_of_lt_of_le (Nat.lt_succ_self _) (Nat.le_of_ble_eq_true rfl)) (ref := "WidowWatch$Book") tW_1_70 rfl rfl hini rfl rfl rfl rfl (Nat.lt_of_lt_of_le (Nat.lt_succ_self _) (Nat.le_of_ble_eq_true rfl)) (fs' := [.int 0, .int 0, .int 0, .int 0, .int 0, .ref q1, .ref q2]) rfl (ws' := [(h_t, .inr (0, [.int 0, .int 0, .int 0, .int 0, .int 0, .ref q1, .ref q2])), (q1, .inl (cA 0, 6, .inl (fun _ => 0))), (q2, .inl (cA 0, 544, .inl (fun _ => 0)))]) rfl dX0_init_18 ?_
  refine k_aload_n C 0 (pc := 21) dX0_init_21 rfl rfl ?_
  refine k_callv C (pc := 22) [0, 1] [2] (wc := [(h_t, .inr (0, [.int 0, .int 0, .int 0, .int 0, .int 0, .ref q1, .ref q2])), (q1, .inl (cA 0, 6, .inl (fun _ => 0)))]) (wr := [(q2, .inl (cA 0, 544, .inl (fun _ => 0)))]) rfl rfl rfl rfl (by decide) (k_runV C (As := []) (rest := []) (ci := 0) (q0 := 0) (conX0_reset l D cA h_t q1 (.ref q2) 0 0 0 0 0 (fun _ => 0) (fun a b c d e f => a = 40 ∧ b = 10 ∧ c = 4 ∧ d = 1 ∧ e = 0 ∧ ∀ j, j < 6 → f j = uC j) (sp_reset _)) ⟨k_cwB C tW_1_48 tW_1_45 tW_1_2 okX0_reset rfl rfl ⟨Nat.le_of_ble_eq_true rfl, Nat.le_of_ble_eq_true rfl⟩, C.w tW_1_46, C.w tW_1_47⟩ rfl rfl rfl rfl rfl (Nat.le_of_ble_eq_true rfl) dX0_init_22 ⟨Nat.le_of_ble_eq_true rfl, Nat.le_of_ble_eq_true rfl⟩) (fun w1_ hw_ => ?_)
  obtain ⟨_, _, _, _, _, f_, rfl, rfl, rfl, rfl, rfl, rfl, H⟩ := hw_
  refine k_ws [1, 2, 0] (ws' := [(h_t, .inr (0, [.int 40, .int 10, .int 4, .int 1, .int 0, .ref q1, .ref q2])), (q1, .inl (cA 0, 6, .inl (f_))), (q2, .inl (cA 0, 544, .inl (fun _ => 0)))]) rfl rfl ?_
  exact k_vret C hr dX0_init_25 ⟨_, _, _, rfl, H⟩
/-! WidowWatch$Reader.<init> -/
theorem dX5_init_0 : decode cX5_init 0 = .ok (.aload_n 0, 1) := by decide +kernel
theorem dX5_init_1 : decode cX5_init 1 = .ok (.invokespecial 3, 3) := by decide +kernel
theorem dX5_init_4 : decode cX5_init 4 = .ok (.aload_n 0, 1) := by decide +kernel
theorem dX5_init_5 : decode cX5_init 5 = .ok (.new 9, 3) := by decide +kernel
theorem dX5_init_8 : decode cX5_init 8 = .ok (.dup, 1) := by decide +kernel
theorem dX5_init_9 : decode cX5_init 9 = .ok (.invokespecial 11, 3) := by decide +kernel
theorem dX5_init_12 : decode cX5_init 12 = .ok (.putfield 12, 3) := by decide +kernel
theorem dX5_init_15 : decode cX5_init 15 = .ok (.aload_n 0, 1) := by decide +kernel
theorem dX5_init_16 : decode cX5_init 16 = .ok (.iconst 0, 1) := by decide +kernel
theorem dX5_init_17 : decode cX5_init 17 = .ok (.newarray .int, 2) := by decide +kernel
theorem dX5_init_19 : decode cX5_init 19 = .ok (.putfield 18, 3) := by decide +kernel
theorem dX5_init_22 : decode cX5_init 22 = .ok (.aload_n 0, 1) := by decide +kernel
theorem dX5_init_23 : decode cX5_init 23 = .ok (.iconst 0, 1) := by decide +kernel
theorem dX5_init_24 : decode cX5_init 24 = .ok (.putfield 22, 3) := by decide +kernel
theorem dX5_init_27 : decode cX5_init 27 = .ok (.aload_n 0, 1) := by decide +kernel
theorem dX5_init_28 : decode cX5_init 28 = .ok (.iconst 0, 1) := by decide +kernel
theorem dX5_init_29 : decode cX5_init 29 = .ok (.putfield 26, 3) := by decide +kernel
theorem dX5_init_32 : decode cX5_init 32 = .ok (.aload_n 0, 1) := by decide +kernel
theorem dX5_init_33 : decode cX5_init 33 = .ok (.iconst 0, 1) := by decide +kernel
theorem dX5_init_34 : decode cX5_init 34 = .ok (.putfield 29, 3) := by decide +kernel
theorem dX5_init_37 : decode cX5_init 37 = .ok (.aload_n 0, 1) := by decide +kernel
theorem dX5_init_38 : decode cX5_init 38 = .ok (.iconst (-1), 1) := by decide +kernel
theorem dX5_init_39 : decode cX5_init 39 = .ok (.putfield 32, 3) := by decide +kernel
theorem dX5_init_42 : decode cX5_init 42 = .ok (.aload_n 0, 1) := by decide +kernel
theorem dX5_init_43 : decode cX5_init 43 = .ok (.iconst 0, 1) := by decide +kernel
theorem dX5_init_44 : decode cX5_init 44 = .ok (.putfield 35, 3) := by decide +kernel
theorem dX5_init_47 : decode cX5_init 47 = .ok (.aload_n 0, 1) := by decide +kernel
theorem dX5_init_48 : decode cX5_init 48 = .ok (.iconst 0, 1) := by decide +kernel
theorem dX5_init_49 : decode cX5_init 49 = .ok (.putfield 39, 3) := by decide +kernel
theorem dX5_init_52 : decode cX5_init 52 = .ok (.return_, 1) := by decide +kernel
theorem okX5_init : okY yX5_init 0 := ⟨by decide +kernel, by decide +kernel, by decide +kernel⟩
set_option maxHeartbeats 4000000 in
set_option maxRecDepth 100000 in
theorem conX5_init (l : Launch) (D : va_G) (cA : Nat → ClassId) (h_t : Nat) : Con l D cA yX5_init (wm yX5_init cX5_init 1 none) { frames := 3, cells := 4, slots := 557, locals := 62 } [(h_t, .inr (5, [.null, .null, .int 0, .int 0, .int 0, .int 0, .int 0, .int 0]))] [.ref h_t] 4 557 (PV (fun w1 => ∃ (q1 : Nat) (q1_2 : Nat) (q2_2 : Nat) (f__2 : Nat → Int32) (q3 : Nat), w1 = [(h_t, .inr (5, [.ref q1, .ref q3, .int (0 : Int32), .int (0 : Int32), .int (0 : Int32), .int (-1 : Int32), .int (0 : Int32), .int (0 : Int32)])), (q1, .inr (0, [.int 40, .int 10, .int 4, .int 1, .int 0, .ref q1_2, .ref q2_2])), (q1_2, .inl (cA 0, 6, .inl (f__2))), (q2_2, .inl (cA 0, 544, .inl (fun _ => 0))), (q3, .inl (cA 0, 0, .inl (fun _ => 0)))] ∧ (∀ j, j < 6 → f__2 j = uC j))) := by
  refine Con.of (by decide) (Nat.le_of_ble_eq_true rfl) ?_
  intro p e s m args below meth c C hr hini
  refine k_eq (ws' := [(h_t, .inr (5, [.null, .null, .int 0, .int 0, .int 0, .int 0, .int 0, .int 0]))]) (lv' := [(0, .ref h_t)]) (st' := []) rfl rfl rfl ?_
  refine k_aload_n C 0 (pc := 0) dX5_init_0 rfl rfl ?_
  refine k_objInit C (pc := 1) tW_1_112 (Nat.le_of_ble_eq_true rfl) (Nat.le_of_ble_eq_true rfl) (Nat.le_of_ble_eq_true rfl) dX5_init_1 ?_
  refine k_aload_n C 0 (pc := 4) dX5_init_4 rfl rfl ?_
  refine k_new C (pc := 5) (fs := [.int 0, .int 0, .int 0, .int 0, .int 0, .null, .null]) inW_X0 tyX0 tyX0_ok tW_1_113 tW_1_40 tW_1_2 (ci := 0) rfl (fun j hj => match j, hj with | 0, _ => rfl | 1, _ => rfl | 2, _ => rfl | 3, _ => rfl | 4, _ => rfl | 5, _ => rfl | 6, _ => rfl | n + 7, h => absurd h (by omega)) (Nat.le_of_ble_eq_true rfl) (Nat.le_of_ble_eq_true rfl) dX5_init_5 (fun q1 => ?_)
  refine k_eq (pc := 8) (ws' := [(h_t, .inr (5, [.null, .null, .int 0, .int 0, .int 0, .int 0, .int 0, .int 0])), (q1, .inr (0, [.int 0, .int 0, .int 0, .int 0, .int 0, .null, .null]))]) rfl rfl rfl ?_
  refine k_dup C (pc := 8) dX5_init_8 rfl ?_
  refine k_callv C (pc := 9) [1] [0] (wc := [(q1, .inr (0, [.int 0, .int 0, .int 0, .int 0, .int 0, .null, .null]))]) (wr := [(h_t, .inr (5, [.null, .null, .int 0, .int 0, .int 0, .int 0, .int 0, .int 0]))]) rfl rfl rfl rfl (by decide) (k_runI C (As := []) (rest := [.ref q1, .ref h_t]) (conX0_init l D cA q1) ⟨k_cwB C tW_1_43 tW_1_114 tW_1_2 okX0_init rfl rfl ⟨Nat.le_of_ble_eq_true rfl, Nat.le_of_ble_eq_true rfl⟩, rfl, C.w tW_1_42⟩ rfl rfl (Nat.le_of_ble_eq_true rfl) dX5_init_9 ⟨Nat.le_of_ble_eq_true rfl, Nat.le_of_ble_eq_true rfl⟩) (fun w1_ hw_ => ?_)
  obtain ⟨q1_2, q2_2, f__2, rfl, H_2_0⟩ := hw_
  refine k_eq (pc := 12) (ws' := [(h_t, .inr (5, [.null, .null, .int 0, .int 0, .int 0, .int 0, .int 0, .int 0])), (q1, .inr (0, [.int 40, .int 10, .int 4, .int 1, .int 0, .ref q1_2, .ref q2_2])), (q1_2, .inl (cA 0, 6, .inl (f__2))), (q2_2, .inl (cA 0, 544, .inl (fun _ => 0)))]) rfl rfl rfl ?_
  refine k_putF C (pc := 12) inW_X5 tyX5 tyX5_ok nmX5 0 0 rfl rfl (Nat.lt_of_lt_of_le (Nat.lt_succ_self _) (Nat.le_of_ble_eq_true rfl)) (ref := "WidowWatch$Reader") tW_1_115 rfl rfl hini rfl rfl rfl rfl (Nat.lt_of_lt_of_le (Nat.lt_succ_self _) (Nat.le_of_ble_eq_true rfl)) (fs' := [.ref q1, .null, .int 0, .int 0, .int 0, .int 0, .int 0, .int 0]) rfl (ws' := [(h_t, .inr (5, [.ref q1, .null, .int 0, .int 0, .int 0, .int 0, .int 0, .int 0])), (q1, .inr (0, [.int 40, .int 10, .int 4, .int 1, .int 0, .ref q1_2, .ref q2_2])), (q1_2, .inl (cA 0, 6, .inl (f__2))), (q2_2, .inl (cA 0, 544, .inl (fun _ => 0)))]) rfl dX5_init_12 ?_
  refine k_aload_n C 0 (pc := 15) dX5_init_15 rfl rfl ?_
  refine k_iconst C (pc := 16) (v := (0 : Int32)) dX5_init_16 rfl ?_
  refine k_newa C (pc := 17) (N := 0) (by decide) (by decide) (Nat.le_of_ble_eq_true rfl) (Nat.le_of_ble_eq_true rfl) (Nat.le_of_ble_eq_true rfl) dX5_init_17 (fun q3 => ?_)
  refine k_eq (pc := 19) (ws' := [(h_t, .inr (5, [.ref q1, .null, .int 0, .int 0, .int 0, .int 0, .int 0, .int 0])), (q1, .inr (0, [.int 40, .int 10, .int 4, .int 1, .int 0, .ref q1_2, .ref q2_2])), (q1_2, .inl (cA 0, 6, .inl (f__2))), (q2_2, .inl (cA 0, 544, .inl (fun _ => 0))), (q3, .inl (cA 0, 0, .inl (fun _ => 0)))]) rfl rfl rfl ?_
  refine k_put C (pc := 19) inW_X5 tyX5 tyX5_ok nmX5 0 1 rfl rfl (Nat.lt_of_lt_of_le (Nat.lt_succ_self _) (Nat.le_of_ble_eq_true rfl)) (ref := "WidowWatch$Reader") tW_1_117 rfl rfl rfl rfl rfl (Nat.lt_of_lt_of_le (Nat.lt_succ_self _) (Nat.le_of_ble_eq_true rfl)) (fs' := [.ref q1, .ref q3, .int 0, .int 0, .int 0, .int 0, .int 0, .int 0]) rfl (ws' := [(h_t, .inr (5, [.ref q1, .ref q3, .int 0, .int 0, .int 0, .int 0, .int 0, .int 0])), (q1, .inr (0, [.int 40, .int 10, .int 4, .int 1, .int 0, .ref q1_2, .ref q2_2])), (q1_2, .inl (cA 0, 6, .inl (f__2))), (q2_2, .inl (cA 0, 544, .inl (fun _ => 0))), (q3, .inl (cA 0, 0, .inl (fun _ => 0)))]) rfl dX5_init_19 ?_
  refine k_aload_n C 0 (pc := 22) dX5_init_22 rfl rfl ?_
  refine k_iconst C (pc := 23) (v := (0 : Int32)) dX5_init_23 rfl ?_
  refine k_put C (pc := 24) inW_X5 tyX5 tyX5_ok nmX5 0 2 rfl rfl (Nat.lt_of_lt_of_le (Nat.lt_succ_self _) (Nat.le_of_ble_eq_true rfl)) (ref := "WidowWatch$Reader") tW_1_118 rfl rfl rfl (ty := .int) rfl rfl (Nat.lt_of_lt_of_le (Nat.lt_succ_self _) (Nat.le_of_ble_eq_true rfl)) (fs' := [.ref q1, .ref q3, .int (0 : Int32), .int 0, .int 0, .int 0, .int 0, .int 0]) rfl (ws' := [(h_t, .inr (5, [.ref q1, .ref q3, .int (0 : Int32), .int 0, .int 0, .int 0, .int 0, .int 0])), (q1, .inr (0, [.int 40, .int 10, .int 4, .int 1, .int 0, .ref q1_2, .ref q2_2])), (q1_2, .inl (cA 0, 6, .inl (f__2))), (q2_2, .inl (cA 0, 544, .inl (fun _ => 0))), (q3, .inl (cA 0, 0, .inl (fun _ => 0)))]) rfl dX5_init_24 ?_
  refine k_aload_n C 0 (pc := 27) dX5_init_27 rfl rfl ?_
  refine k_iconst C (pc := 28) (v := (0 : Int32)) dX5_init_28 rfl ?_
  refine k_put C (pc := 29) inW_X5 tyX5 tyX5_ok nmX5 0 3 rfl rfl (Nat.lt_of_lt_of_le (Nat.lt_succ_self _) (Nat.le_of_ble_eq_true rfl)) (ref := "WidowWatch$Reader") tW_1_119 rfl rfl rfl (ty := .int) rfl rfl (Nat.lt_of_lt_of_le (Nat.lt_succ_self _) (Nat.le_of_ble_eq_true rfl)) (fs' := [.ref q1, .ref q3, .int (0 : Int32), .int (0 : Int32), .int 0, .int 0, .int 0, .int 0]) rfl (ws' := [(h_t, .inr (5, [.ref q1, .ref q3, .int (0 : Int32), .int (0 : Int32), .int 0, .int 0, .int 0, .int 0])), (q1, .inr (0, [.int 40, .int 10, .int 4, .int 1, .int 0, .ref q1_2, .ref q2_2])), (q1_2, .inl (cA 0, 6, .inl (f__2))), (q2_2, .inl (cA 0, 544, .inl (fun _ => 0))), (q3, .inl (cA 0, 0, .inl (fun _ => 0)))]) rfl dX5_init_29 ?_
  refine k_aload_n C 0 (pc := 32) dX5_init_32 rfl rfl ?_
  refine k_iconst C (pc := 33) (v := (0 : Int32)) dX5_init_33 rfl ?_
  refine k_put C (pc := 34) inW_X5 tyX5 tyX5_ok nmX5 0 4 rfl rfl (Nat.lt_of_lt_of_le (Nat.lt_succ_self _) (Nat.le_of_ble_eq_true rfl)) (ref := "WidowWatch$Reader") tW_1_120 rfl rfl rfl (ty := .int) rfl rfl (Nat.lt_of_lt_of_le (Nat.lt_succ_self _) (Nat.le_of_ble_eq_true rfl)) (fs' := [.ref q1, .ref q3, .int (0 : Int32), .int (0 : Int32), .int (0 : Int32), .int 0, .int 0, .int 0]) rfl (ws' := [(h_t, .inr (5, [.ref q1, .ref q3, .int (0 : Int32), .int (0 : Int32), .int (0 : Int32), .int 0, .int 0, .int 0])), (q1, .inr (0, [.int 40, .int 10, .int 4, .int 1, .int 0, .ref q1_2, .ref q2_2])), (q1_2, .inl (cA 0, 6, .inl (f__2))), (q2_2, .inl (cA 0, 544, .inl (fun _ => 0))), (q3, .inl (cA 0, 0, .inl (fun _ => 0)))]) rfl dX5_init_34 ?_
  refine k_aload_n C 0 (pc := 37) dX5_init_37 rfl rfl ?_
  refine k_iconst C (pc := 38) (v := (-1 : Int32)) dX5_init_38 rfl ?_
  refine k_put C (pc := 39) inW_X5 tyX5 tyX5_ok nmX5 0 5 rfl rfl (Nat.lt_of_lt_of_le (Nat.lt_succ_self _) (Nat.le_of_ble_eq_true rfl)) (ref := "WidowWatch$Reader") tW_1_122 rfl rfl rfl (ty := .int) rfl rfl (Nat.lt_of_lt_of_le (Nat.lt_succ_self _) (Nat.le_of_ble_eq_true rfl)) (fs' := [.ref q1, .ref q3, .int (0 : Int32), .int (0 : Int32), .int (0 : Int32), .int (-1 : Int32), .int 0, .int 0]) rfl (ws' := [(h_t, .inr (5, [.ref q1, .ref q3, .int (0 : Int32), .int (0 : Int32), .int (0 : Int32), .int (-1 : Int32), .int 0, .int 0])), (q1, .inr (0, [.int 40, .int 10, .int 4, .int 1, .int 0, .ref q1_2, .ref q2_2])), (q1_2, .inl (cA 0, 6, .inl (f__2))), (q2_2, .inl (cA 0, 544, .inl (fun _ => 0))), (q3, .inl (cA 0, 0, .inl (fun _ => 0)))]) rfl dX5_init_39 ?_
  refine k_aload_n C 0 (pc := 42) dX5_init_42 rfl rfl ?_
  refine k_iconst C (pc := 43) (v := (0 : Int32)) dX5_init_43 rfl ?_
  refine k_put C (pc := 44) inW_X5 tyX5 tyX5_ok nmX5 0 6 rfl rfl (Nat.lt_of_lt_of_le (Nat.lt_succ_self _) (Nat.le_of_ble_eq_true rfl)) (ref := "WidowWatch$Reader") tW_1_124 rfl rfl rfl (ty := .boolean) rfl rfl (Nat.lt_of_lt_of_le (Nat.lt_succ_self _) (Nat.le_of_ble_eq_true rfl)) (fs' := [.ref q1, .ref q3, .int (0 : Int32), .int (0 : Int32), .int (0 : Int32), .int (-1 : Int32), .int (0 : Int32), .int 0]) rfl (ws' := [(h_t, .inr (5, [.ref q1, .ref q3, .int (0 : Int32), .int (0 : Int32), .int (0 : Int32), .int (-1 : Int32), .int (0 : Int32), .int 0])), (q1, .inr (0, [.int 40, .int 10, .int 4, .int 1, .int 0, .ref q1_2, .ref q2_2])), (q1_2, .inl (cA 0, 6, .inl (f__2))), (q2_2, .inl (cA 0, 544, .inl (fun _ => 0))), (q3, .inl (cA 0, 0, .inl (fun _ => 0)))]) rfl dX5_init_44 ?_
  refine k_aload_n C 0 (pc := 47) dX5_init_47 rfl rfl ?_
  refine k_iconst C (pc := 48) (v := (0 : Int32)) dX5_init_48 rfl ?_
  refine k_put C (pc := 49) inW_X5 tyX5 tyX5_ok nmX5 0 7 rfl rfl (Nat.lt_of_lt_of_le (Nat.lt_succ_self _) (Nat.le_of_ble_eq_true rfl)) (ref := "WidowWatch$Reader") tW_1_125 rfl rfl rfl (ty := .boolean) rfl rfl (Nat.lt_of_lt_of_le (Nat.lt_succ_self _) (Nat.le_of_ble_eq_true rfl)) (fs' := [.ref q1, .ref q3, .int (0 : Int32), .int (0 : Int32), .int (0 : Int32), .int (-1 : Int32), .int (0 : Int32), .int (0 : Int32)]) rfl (ws' := [(h_t, .inr (5, [.ref q1, .ref q3, .int (0 : Int32), .int (0 : Int32), .int (0 : Int32), .int (-1 : Int32), .int (0 : Int32), .int (0 : Int32)])), (q1, .inr (0, [.int 40, .int 10, .int 4, .int 1, .int 0, .ref q1_2, .ref q2_2])), (q1_2, .inl (cA 0, 6, .inl (f__2))), (q2_2, .inl (cA 0, 544, .inl (fun _ => 0))), (q3, .inl (cA 0, 0, .inl (fun _ => 0)))]) rfl dX5_init_49 ?_
  exact k_vret C hr dX5_init_52 ⟨_, _, _, _, _, rfl, H_2_0⟩
