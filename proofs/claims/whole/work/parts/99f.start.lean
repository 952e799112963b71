/-! THE WALK FROM THE ENTRY -/
def st_h (q : List Nat) : Nat → Nat := fun k => q.getD k 0
theorem st_ok : OkB bk0 := by
  refine ⟨⟨by decide, by decide, by decide⟩, ⟨by decide, by decide, by decide⟩, ⟨by decide, by decide⟩, ⟨by decide, by decide⟩, ⟨by decide, by decide⟩, fun k hk => ?_, fun p hp => ?_⟩
  · match k, hk with
    | 0, _ => exact ⟨by decide, by decide⟩
    | 1, _ => exact ⟨by decide, by decide⟩
    | 2, _ => exact ⟨by decide, by decide⟩
    | 3, _ => exact ⟨by decide, by decide⟩
    | 4, _ => exact ⟨by decide, by decide⟩
    | 5, _ => exact ⟨by decide, by decide⟩
    | n + 6, h => exact absurd h (by omega)
  · rw [show dP bk0 = 0 by decide] at hp
    exact absurd hp (Nat.not_lt_zero _)
theorem st_P : dP bk0 = 0 := by decide
theorem st_cb {costs rows : Nat → Int32} (h : ∀ j, j < 6 → costs j = uC j) : CB bk0 40 10 4 1 0 costs rows := by
  refine ⟨by decide, by decide, by decide, by decide, by decide, fun k hk => ?_, fun p hp => ?_⟩
  · rw [h k hk]
    match k, hk with
    | 0, _ => decide
    | 1, _ => decide
    | 2, _ => decide
    | 3, _ => decide
    | 4, _ => decide
    | 5, _ => decide
    | n + 6, h => exact absurd h (by omega)
  · rw [st_P] at hp
    exact absurd hp (Nat.not_lt_zero _)
abbrev st_S : ivS := (bk0, fun _ _ => 0, 0, fun _ => 0, 0, -1)
set_option maxHeartbeats 4000000 in
set_option maxRecDepth 100000 in
theorem st_iv (cA : Nat → ClassId) (h_t : Nat) (q1 : Nat) (q2 : Nat) (q1_3 : Nat) (q2_3 : Nat) (q4 : Nat) (q1_5 : Nat) (q2_5 : Nat) (q1_3_5 : Nat) (q2_3_5 : Nat) (q4_5 : Nat) (q1_5_5 : Nat) (q2_5_5 : Nat) (q6_5 : Nat) (q1_7_5 : Nat) (q2_7_5 : Nat) (q8_5 : Nat) (q1_9_5 : Nat) (q2_9_5 : Nat) (q10_5 : Nat) (q1_11_5 : Nat) (q2_11_5 : Nat) (q12_5 : Nat) (q1_13_5 : Nat) (q2_13_5 : Nat) (q14_5 : Nat) (q1_15_5 : Nat) (q2_15_5 : Nat) (q16_5 : Nat) (q1_17_5 : Nat) (q2_17_5 : Nat) (q6 : Nat) (q1_7 : Nat) (q1_2_7 : Nat) (q2_2_7 : Nat) (q3_7 : Nat) (q8 : Nat) (q1_9 : Nat) (q2_9 : Nat) (q10 : Nat) (q1_11 : Nat) (q2_11 : Nat) (q3_11 : Nat) (q4_11 : Nat) (q12 : Nat) (q1_13 : Nat) (q2_13 : Nat) (q3_13 : Nat) (q4_13 : Nat) (q5_13 : Nat) (q14 : Nat) (q1_15 : Nat) (q2_15 : Nat) (q3_15 : Nat) (q4_15 : Nat) (q5_15 : Nat) (q16 : Nat) (q1_17 : Nat) (q2_17 : Nat) (q3_17 : Nat) (q4_17 : Nat) (q5_17 : Nat) (f__3 : Nat → Int32) (f__3_5 : Nat → Int32) (f__5_5 : Nat → Int32) (f__7_5 : Nat → Int32) (f__9_5 : Nat → Int32) (f__11_5 : Nat → Int32) (f__13_5 : Nat → Int32) (f__15_5 : Nat → Int32) (f__17_5 : Nat → Int32) (f__2_7 : Nat → Int32) (hf : ∀ j, j < 6 → f__3 j = uC j) : ivI cA (st_h [h_t, q14, q2_15, q4_15, q3_15, q1_15, q5_15, q2, q1_3, q2_3, q1, q4, q1_5, q8, q1_9, q2_9, q12, q2_13, q4_13, q3_13, q1_13, q5_13, q10, q2_11, q4_11, q3_11, q1_11, q6, q1_7, q1_2_7, q2_2_7, q16, q2_17, q4_17, q3_17, q1_17, q5_17]) (sel8 q2_5 q4_5 q6_5 q8_5 q10_5 q12_5 q14_5 q16_5) (sel8 q1_3_5 q1_5_5 q1_7_5 q1_9_5 q1_11_5 q1_13_5 q1_15_5 q1_17_5) (sel8 q2_3_5 q2_5_5 q2_7_5 q2_9_5 q2_11_5 q2_13_5 q2_15_5 q2_17_5) st_S true (ivW cA (st_h [h_t, q14, q2_15, q4_15, q3_15, q1_15, q5_15, q2, q1_3, q2_3, q1, q4, q1_5, q8, q1_9, q2_9, q12, q2_13, q4_13, q3_13, q1_13, q5_13, q10, q2_11, q4_11, q3_11, q1_11, q6, q1_7, q1_2_7, q2_2_7, q16, q2_17, q4_17, q3_17, q1_17, q5_17]) (sel8 q2_5 q4_5 q6_5 q8_5 q10_5 q12_5 q14_5 q16_5) (sel8 q1_3_5 q1_5_5 q1_7_5 q1_9_5 q1_11_5 q1_13_5 q1_15_5 q1_17_5) (sel8 q2_3_5 q2_5_5 q2_7_5 q2_9_5 q2_11_5 q2_13_5 q2_15_5 q2_17_5) (.ref q3_7) (0 : Int32) (-1 : Int32) (0 : Int32) (0 : Int32) (0 : Int32) (0 : Int32) (fun _ => 0) (fun _ => 0) (fun _ => 0) (fun _ => 0) (fun _ => 0) 40 10 4 1 0 (f__3) (fun _ => 0) (fun _ => 0) (0 : Int32) (0 : Int32) (fun _ => 40) (fun _ => 10) (fun _ => 4) (fun _ => 1) (fun _ => 0) (sel8 f__3_5 f__5_5 f__7_5 f__9_5 f__11_5 f__13_5 f__15_5 f__17_5) (fun _ _ => 0) (fun _ => 0) (fun _ => 0) (0 : Int32) (0 : Int32) (fun _ => 0) (fun _ => 0) (fun _ => 0) (fun _ => 0) (fun _ => 0) (fun _ => 0) (fun _ => 0) (fun _ => 0) (fun _ => 0) (0 : Int32) (0 : Int32) (0 : Int32) (-1 : Int32) (0 : Int32) (0 : Int32) 40 10 4 1 0 (f__2_7) (fun _ => 0) (0 : Int32) (0 : Int32) (fun _ => 0) (fun _ => 0) (fun _ => 0) (fun _ => 0) (fun _ => 0)) :=
  ivI.mk ⟨st_ok, TX_0, rfl, rfl, st_cb hf, ⟨0, by decide, rfl, rfl, by decide, fun i hi => absurd hi (Nat.not_lt_zero _)⟩, fun p hp => absurd (st_P ▸ hp) (Nat.not_lt_zero _), Or.inl rfl, Or.inl rfl, fun _ => ⟨rfl, rfl⟩⟩
theorem d_law_0 : decode code 0 = .ok (.new 8, 3) := by decide +kernel
theorem d_law_3 : decode code 3 = .ok (.dup, 1) := by decide +kernel
theorem d_law_4 : decode code 4 = .ok (.invokespecial 68, 3) := by decide +kernel
theorem d_law_7 : decode code 7 = .ok (.astore_n 1, 1) := by decide +kernel
theorem d_law_8 : decode code 8 = .ok (.new 69, 3) := by decide +kernel
theorem d_law_11 : decode code 11 = .ok (.dup, 1) := by decide +kernel
theorem d_law_12 : decode code 12 = .ok (.invokespecial 71, 3) := by decide +kernel
theorem d_law_15 : decode code 15 = .ok (.astore_n 2, 1) := by decide +kernel
theorem d_law_16 : decode code 16 = .ok (.iconst 1, 1) := by decide +kernel
theorem d_law_17 : decode code 17 = .ok (.newarray .long, 2) := by decide +kernel
theorem d_law_19 : decode code 19 = .ok (.astore_n 3, 1) := by decide +kernel
theorem d_law_20 : decode code 20 = .ok (.iconst 0, 1) := by decide +kernel
theorem d_law_21 : decode code 21 = .ok (.istore 4, 2) := by decide +kernel
set_option maxHeartbeats 4000000 in
set_option maxRecDepth 100000 in
theorem whole_start {p : Program} {e : Env} {s : State} {m : MethodId} {below : List Frame} {meth : Method} {c : Code} (l : Launch) (hflags : l.flags = flags0) {b L : Nat} {xs : Nat → Int32} (hL : L ≤ 3072) (C0 : lw_At p s m meth c b L xs) : W p l e room_1 s m #[Value.ref b] below meth c s.heap [] 0 0 (lw_Z below #[Value.ref b] s) (entryFrame m ([Value.ref b] : List Value).toArray 9) := by
  obtain ⟨hx, hb, hr, hml, hown, hts, hX, hbl, hlocks, hgv⟩ := C0
  obtain ⟨D, cA, hE, hF⟩ := st_ev hts hgv
  have hst : l.stackTraces = false := by
    unfold Launch.stackTraces
    rw [hflags]
    decide
  have C : Cx p s m meth c code 9 #[Value.ref b] lw_tbl "WidowWatchLaw" D cA (fun q => s.heap.size ≤ q) := ⟨⟨hx, hb, hml, hown, hts⟩, hE.1.1, fun q h => h, hlocks, fun w hw => W0L hw⟩
  rw [lg_entry_eq]
  have K : lwK p l e s m below meth c D b (lw_Z below #[Value.ref b] s) 0 0 [] 0 (lv_args 0 [Value.ref b]) [] := by
    refine k_eq (ws' := []) (lv' := [(0, .ref b)]) (st' := []) rfl rfl rfl ?_
    refine k_new C (pc := 0) (fs := [.null, .int 0, .int 0, .null, .null, .null, .null, .null, .null, .null, .null, .int 0, .int 0]) inW_X6 tyX6 tyX6_ok tW_1_21 tW_1_22 tW_1_1 (ci := 6) rfl (fun j hj => match j, hj with | 0, _ => rfl | 1, _ => rfl | 2, _ => rfl | 3, _ => rfl | 4, _ => rfl | 5, _ => rfl | 6, _ => rfl | 7, _ => rfl | 8, _ => rfl | 9, _ => rfl | 10, _ => rfl | 11, _ => rfl | 12, _ => rfl | n + 13, h => absurd h (by omega)) (Nat.le_of_ble_eq_true rfl) (Nat.le_of_ble_eq_true rfl) d_law_0 (fun q0 => ?_)
    refine k_eq (pc := 3) (ws' := [(q0, .inr (6, [.null, .int 0, .int 0, .null, .null, .null, .null, .null, .null, .null, .null, .int 0, .int 0]))]) rfl rfl rfl ?_
    refine k_dup C (pc := 3) d_law_3 rfl ?_
    refine k_callv C (pc := 4) [0] [] (wc := [(q0, .inr (6, [.null, .int 0, .int 0, .null, .null, .null, .null, .null, .null, .null, .null, .int 0, .int 0]))]) (wr := []) rfl rfl rfl rfl (by decide) (k_runIC C hF (As := []) (rest := [.ref q0]) (conX6_init l D cA q0) ⟨k_cwB C tW_1_25 tW_1_23 tW_1_1 okX6_init rfl rfl ⟨Nat.le_of_ble_eq_true rfl, Nat.le_of_ble_eq_true rfl⟩, rfl, C.w tW_1_24⟩ rfl rfl (Nat.le_of_ble_eq_true rfl) d_law_4 ⟨Nat.le_of_ble_eq_true rfl, Nat.le_of_ble_eq_true rfl⟩) (fun w1_ hw_ => ?_)
    obtain ⟨q1, q2, q1_3, q2_3, f__3, q4, q1_5, q2_5, q1_3_5, q2_3_5, f__3_5, q4_5, q1_5_5, q2_5_5, f__5_5, q6_5, q1_7_5, q2_7_5, f__7_5, q8_5, q1_9_5, q2_9_5, f__9_5, q10_5, q1_11_5, q2_11_5, f__11_5, q12_5, q1_13_5, q2_13_5, f__13_5, q14_5, q1_15_5, q2_15_5, f__15_5, q16_5, q1_17_5, q2_17_5, f__17_5, q6, q1_7, q1_2_7, q2_2_7, f__2_7, q3_7, q8, q1_9, q2_9, q10, q1_11, q2_11, q3_11, q4_11, q12, q1_13, q2_13, q3_13, q4_13, q5_13, q14, q1_15, q2_15, q3_15, q4_15, q5_15, q16, q1_17, q2_17, q3_17, q4_17, q5_17, rfl, hf0, hf1, hf2, hf3, hf4, hf5, hf6, hf7, hf8, hf9⟩ := hw_
    refine k_ws (pc := 7) [0, 50, 52, 54, 53, 51, 55, 2, 3, 4, 1, 5, 6, 7, 8, 9, 10, 11, 12, 13, 14, 15, 16, 17, 18, 19, 20, 21, 22, 23, 24, 25, 26, 27, 28, 29, 30, 36, 37, 38, 44, 46, 48, 47, 45, 49, 39, 41, 43, 42, 40, 31, 32, 33, 34, 56, 58, 60, 59, 57, 61] (ws' := ivW cA (st_h [q0, q14, q2_15, q4_15, q3_15, q1_15, q5_15, q2, q1_3, q2_3, q1, q4, q1_5, q8, q1_9, q2_9, q12, q2_13, q4_13, q3_13, q1_13, q5_13, q10, q2_11, q4_11, q3_11, q1_11, q6, q1_7, q1_2_7, q2_2_7, q16, q2_17, q4_17, q3_17, q1_17, q5_17]) (sel8 q2_5 q4_5 q6_5 q8_5 q10_5 q12_5 q14_5 q16_5) (sel8 q1_3_5 q1_5_5 q1_7_5 q1_9_5 q1_11_5 q1_13_5 q1_15_5 q1_17_5) (sel8 q2_3_5 q2_5_5 q2_7_5 q2_9_5 q2_11_5 q2_13_5 q2_15_5 q2_17_5) (.ref q3_7) (0 : Int32) (-1 : Int32) (0 : Int32) (0 : Int32) (0 : Int32) (0 : Int32) (fun _ => 0) (fun _ => 0) (fun _ => 0) (fun _ => 0) (fun _ => 0) 40 10 4 1 0 (f__3) (fun _ => 0) (fun _ => 0) (0 : Int32) (0 : Int32) (fun _ => 40) (fun _ => 10) (fun _ => 4) (fun _ => 1) (fun _ => 0) (sel8 f__3_5 f__5_5 f__7_5 f__9_5 f__11_5 f__13_5 f__15_5 f__17_5) (fun _ _ => 0) (fun _ => 0) (fun _ => 0) (0 : Int32) (0 : Int32) (fun _ => 0) (fun _ => 0) (fun _ => 0) (fun _ => 0) (fun _ => 0) (fun _ => 0) (fun _ => 0) (fun _ => 0) (fun _ => 0) (0 : Int32) (0 : Int32) (0 : Int32) (-1 : Int32) (0 : Int32) (0 : Int32) 40 10 4 1 0 (f__2_7) (fun _ => 0) (0 : Int32) (0 : Int32) (fun _ => 0) (fun _ => 0) (fun _ => 0) (fun _ => 0) (fun _ => 0)) rfl rfl ?_
    have hI := st_iv cA q0 q1 q2 q1_3 q2_3 q4 q1_5 q2_5 q1_3_5 q2_3_5 q4_5 q1_5_5 q2_5_5 q6_5 q1_7_5 q2_7_5 q8_5 q1_9_5 q2_9_5 q10_5 q1_11_5 q2_11_5 q12_5 q1_13_5 q2_13_5 q14_5 q1_15_5 q2_15_5 q16_5 q1_17_5 q2_17_5 q6 q1_7 q1_2_7 q2_2_7 q3_7 q8 q1_9 q2_9 q10 q1_11 q2_11 q3_11 q4_11 q12 q1_13 q2_13 q3_13 q4_13 q5_13 q14 q1_15 q2_15 q3_15 q4_15 q5_15 q16 q1_17 q2_17 q3_17 q4_17 q5_17 f__3 f__3_5 f__5_5 f__7_5 f__9_5 f__11_5 f__13_5 f__15_5 f__17_5 f__2_7 hf0
    generalize hw_ : ivW cA (st_h [q0, q14, q2_15, q4_15, q3_15, q1_15, q5_15, q2, q1_3, q2_3, q1, q4, q1_5, q8, q1_9, q2_9, q12, q2_13, q4_13, q3_13, q1_13, q5_13, q10, q2_11, q4_11, q3_11, q1_11, q6, q1_7, q1_2_7, q2_2_7, q16, q2_17, q4_17, q3_17, q1_17, q5_17]) (sel8 q2_5 q4_5 q6_5 q8_5 q10_5 q12_5 q14_5 q16_5) (sel8 q1_3_5 q1_5_5 q1_7_5 q1_9_5 q1_11_5 q1_13_5 q1_15_5 q1_17_5) (sel8 q2_3_5 q2_5_5 q2_7_5 q2_9_5 q2_11_5 q2_13_5 q2_15_5 q2_17_5) (.ref q3_7) (0 : Int32) (-1 : Int32) (0 : Int32) (0 : Int32) (0 : Int32) (0 : Int32) (fun _ => 0) (fun _ => 0) (fun _ => 0) (fun _ => 0) (fun _ => 0) 40 10 4 1 0 (f__3) (fun _ => 0) (fun _ => 0) (0 : Int32) (0 : Int32) (fun _ => 40) (fun _ => 10) (fun _ => 4) (fun _ => 1) (fun _ => 0) (sel8 f__3_5 f__5_5 f__7_5 f__9_5 f__11_5 f__13_5 f__15_5 f__17_5) (fun _ _ => 0) (fun _ => 0) (fun _ => 0) (0 : Int32) (0 : Int32) (fun _ => 0) (fun _ => 0) (fun _ => 0) (fun _ => 0) (fun _ => 0) (fun _ => 0) (fun _ => 0) (fun _ => 0) (fun _ => 0) (0 : Int32) (0 : Int32) (0 : Int32) (-1 : Int32) (0 : Int32) (0 : Int32) 40 10 4 1 0 (f__2_7) (fun _ => 0) (0 : Int32) (0 : Int32) (fun _ => 0) (fun _ => 0) (fun _ => 0) (fun _ => 0) (fun _ => 0) = w at hI ⊢
    obtain ⟨h, eh⟩ : ∃ h, h = (st_h [q0, q14, q2_15, q4_15, q3_15, q1_15, q5_15, q2, q1_3, q2_3, q1, q4, q1_5, q8, q1_9, q2_9, q12, q2_13, q4_13, q3_13, q1_13, q5_13, q10, q2_11, q4_11, q3_11, q1_11, q6, q1_7, q1_2_7, q2_2_7, q16, q2_17, q4_17, q3_17, q1_17, q5_17]) := ⟨_, rfl⟩
    obtain ⟨ab, eb⟩ : ∃ h, h = (sel8 q2_5 q4_5 q6_5 q8_5 q10_5 q12_5 q14_5 q16_5) := ⟨_, rfl⟩
    obtain ⟨ac, ec⟩ : ∃ h, h = (sel8 q1_3_5 q1_5_5 q1_7_5 q1_9_5 q1_11_5 q1_13_5 q1_15_5 q1_17_5) := ⟨_, rfl⟩
    obtain ⟨ar, er⟩ : ∃ h, h = (sel8 q2_3_5 q2_5_5 q2_7_5 q2_9_5 q2_11_5 q2_13_5 q2_15_5 q2_17_5) := ⟨_, rfl⟩
    rw [← eh, ← eb, ← ec, ← er] at hI
    have e0 : q0 = h 0 := by rw [eh]; rfl
    rw [e0]
    clear hw_
    refine k_astore_n C (pc := 7) d_law_7 rfl (Nat.lt_of_lt_of_le (Nat.lt_succ_self _) (Nat.le_of_ble_eq_true rfl)) (lv' := [(1, .ref (h 0)), (0, .ref b)]) rfl ?_
    refine k_new C (pc := 8) (fs := [.int 0, .null, .int 0, .int 0, .int 0, .int 0, .int 0, .int 0, .null, .null, .null, .int 0, .int 0, .int 0, .null, .null, .null, .null, .null, .null, .null, .null, .null, .null, .null, .int 0]) inW_X7 tyX7 tyX7_ok tW_4_187 tW_4_188 tW_1_8 (ci := 7) rfl (fun j hj => match j, hj with | 0, _ => rfl | 1, _ => rfl | 2, _ => rfl | 3, _ => rfl | 4, _ => rfl | 5, _ => rfl | 6, _ => rfl | 7, _ => rfl | 8, _ => rfl | 9, _ => rfl | 10, _ => rfl | 11, _ => rfl | 12, _ => rfl | 13, _ => rfl | 14, _ => rfl | 15, _ => rfl | 16, _ => rfl | 17, _ => rfl | 18, _ => rfl | 19, _ => rfl | 20, _ => rfl | 21, _ => rfl | 22, _ => rfl | 23, _ => rfl | 24, _ => rfl | 25, _ => rfl | n + 26, h => absurd h (by omega)) (Nat.le_of_ble_eq_true rfl) (Nat.le_of_ble_eq_true rfl) d_law_8 (fun q1 => ?_)
    refine k_dup C (pc := 11) d_law_11 rfl ?_
    refine k_onR C (pc := 12) (k_runIC C hF (As := []) (rest := [.ref q1]) (conX7_init l D cA q1) ⟨k_cwB C tW_4_191 tW_4_189 tW_1_8 okX7_init rfl rfl ⟨Nat.le_of_ble_eq_true rfl, Nat.le_of_ble_eq_true rfl⟩, rfl, C.w tW_4_190⟩ rfl rfl (Nat.le_of_ble_eq_true rfl) d_law_12 ⟨Nat.le_of_ble_eq_true rfl, Nat.le_of_ble_eq_true rfl⟩) (fun v w1 hv => ?_)
    obtain ⟨rfl, g1, g2, g3, g4, g5, g6, g7, g8, g9, g10, g11, g12, g13, g14, g15, fd, rfl, hd⟩ := hv
    refine k_perm (pc := 15) (ws' := w ++ imW cA (st_h [q1, g1, g2, g3, g4, g5, g6, g7, g8, g9, g10, g11, g12, g13, g14, g15]) (fun i => g4 + 1 + i) (fun i => g6 + 1 + i) (fun i => g7 + 1 + i) (fun i => g15 + 1 + i) (v1 g8) (v2 g8) (v3 g8) 0 0 0 0 0 0 (-1 : Int32) 0 0 0 0 (fun _ => 0) fd (fun _ => 0) (fun _ _ => 0) (fun _ => 0) (fun _ _ => 0) (fun _ _ => 0) (fun _ _ _ _ => 0) (fun _ => 0) (fun _ => 0) (fun _ => 0) (fun _ => 0) (fun _ => 0) (fun _ => 0) (fun _ _ => 0)) (List.Perm.append_left _ (List.Perm.append_left _ (mT_new cA g4 g6 g7 g8 g15))) ?_
    have hM : imI cA (st_h [q1, g1, g2, g3, g4, g5, g6, g7, g8, g9, g10, g11, g12, g13, g14, g15]) (fun i => g4 + 1 + i) (fun i => g6 + 1 + i) (fun i => g7 + 1 + i) (fun i => g15 + 1 + i) (v1 g8) (v2 g8) (v3 g8) (fd, (fun _ _ => 0), 0, (fun _ => 0), 0, -1) 0 (imW cA (st_h [q1, g1, g2, g3, g4, g5, g6, g7, g8, g9, g10, g11, g12, g13, g14, g15]) (fun i => g4 + 1 + i) (fun i => g6 + 1 + i) (fun i => g7 + 1 + i) (fun i => g15 + 1 + i) (v1 g8) (v2 g8) (v3 g8) 0 0 0 0 0 0 (-1 : Int32) 0 0 0 0 (fun _ => 0) fd (fun _ => 0) (fun _ _ => 0) (fun _ => 0) (fun _ _ => 0) (fun _ _ => 0) (fun _ _ _ _ => 0) (fun _ => 0) (fun _ => 0) (fun _ => 0) (fun _ => 0) (fun _ => 0) (fun _ => 0) (fun _ _ => 0)) := imI.mk TX_0 rfl rfl rfl rfl rfl
    generalize hw_ : imW cA (st_h [q1, g1, g2, g3, g4, g5, g6, g7, g8, g9, g10, g11, g12, g13, g14, g15]) (fun i => g4 + 1 + i) (fun i => g6 + 1 + i) (fun i => g7 + 1 + i) (fun i => g15 + 1 + i) (v1 g8) (v2 g8) (v3 g8) 0 0 0 0 0 0 (-1 : Int32) 0 0 0 0 (fun _ => 0) fd (fun _ => 0) (fun _ _ => 0) (fun _ => 0) (fun _ _ => 0) (fun _ _ => 0) (fun _ _ _ _ => 0) (fun _ => 0) (fun _ => 0) (fun _ => 0) (fun _ => 0) (fun _ => 0) (fun _ => 0) (fun _ _ => 0) = wM at hM ⊢
    clear hw_
    obtain ⟨hm, em⟩ : ∃ h, h = (st_h [q1, g1, g2, g3, g4, g5, g6, g7, g8, g9, g10, g11, g12, g13, g14, g15]) := ⟨_, rfl⟩
    rw [← em] at hM
    have e1 : q1 = hm 0 := by rw [em]; rfl
    refine k_eq (pc := 15) (st' := [.ref (hm 0)]) rfl rfl (by rw [e1]; rfl) ?_
    have hI2 : ivI cA h ab ac ar (fd, (fun _ _ => 0), 0, (fun _ => 0), 0, -1) false w := (hI.move (S1 := (fd, (fun _ _ => 0), 0, (fun _ => 0), 0, -1)) hd (fun i hi => absurd hi (Nat.not_lt_zero _)) rfl).weak
    refine k_astore_n C (pc := 15) d_law_15 rfl (Nat.lt_of_lt_of_le (Nat.lt_succ_self _) (Nat.le_of_ble_eq_true rfl)) (lv' := [(2, .ref (hm 0)), (1, .ref (h 0)), (0, .ref b)]) rfl ?_
    refine k_iconst C (pc := 16) (v := (1 : Int32)) d_law_16 rfl ?_
    refine k_newl C (pc := 17) (N := 1) (by decide) (by decide) (Nat.le_of_ble_eq_true rfl) (Nat.le_of_ble_eq_true rfl) (Nat.le_of_ble_eq_true rfl) d_law_17 (fun o => ?_)
    refine k_perm (pc := 19) (ws' := (w ++ [(o, .inl (cA 5, 1, .inr (.inl (fun _ => 0))))]) ++ wM) (by rw [List.append_assoc, List.append_assoc]; exact List.Perm.append_left _ List.perm_append_comm) ?_
    refine k_astore_n C (pc := 19) d_law_19 rfl (Nat.lt_of_lt_of_le (Nat.lt_succ_self _) (Nat.le_of_ble_eq_true rfl)) (lv' := [(3, .ref o), (2, .ref (hm 0)), (1, .ref (h 0)), (0, .ref b)]) rfl ?_
    refine k_iconst C (pc := 20) (v := (0 : Int32)) d_law_20 rfl ?_
    refine k_istore C (pc := 21) d_law_21 (Nat.lt_of_lt_of_le (Nat.lt_succ_self _) (Nat.le_of_ble_eq_true rfl)) (lv' := [(4, .int (0 : Int32)), (3, .ref o), (2, .ref (hm 0)), (1, .ref (h 0)), (0, .ref b)]) rfl ?_
    refine k_lv (pc := 23) [4, 3, 2, 1, 0] (lv' := [(0, .ref b), (1, .ref (h 0)), (2, .ref (hm 0)), (3, .ref o), (4, .int (nI (6 * 0)))]) rfl ?_
    refine k_widen (k := 2000 + 8 * 0) (n := 100000 + 64 * 0) (Nat.le_of_ble_eq_true rfl) (Nat.le_of_ble_eq_true rfl) ?_
    exact law_loop C hE hst hX hbl o h ab ac ar hm _ _ _ _ _ _ _ hL hr (L + 1) 0 _ _ _ w wM (Nat.zero_le _) (by omega) hI2 hM
  exact K s.heap [] _ (fun k q h => by simp at h) ⟨fun i j p q h => by simp at h, fun k q h => by simp at h⟩ va_S.rf (lv_entry [.ref b] (Nat.le_of_ble_eq_true rfl))
-- ===== YOUR PART ENDS =====
