/-! THE WALK FROM THE ENTRY -/
abbrev lwK (p : Program) (l : Launch) (e : Env) (s : State) (m : MethodId) (below : List Frame) (meth : Method) (c : Code) (D : va_G) (b : Nat) (Q : State → Prop) (cells slots : Nat) (ws : va_W) (pc : Nat) (lv : List (Nat × Value)) (st : List Value) : Prop := Kf p l e room_1 s m #[Value.ref b] below meth c D (fun q => s.heap.size ≤ q) 28 cells slots Q ws pc lv st
def st_h (q : List Nat) : Nat → Nat := fun k => q.getD k 0
theorem st_cb {costs rows : Nat → Int32} (h : ∀ j, j < 6 → costs j = uC j) : CB bk0 40 10 4 1 0 costs rows := by
  refine ⟨by decide, by decide, by decide, by decide, by decide, fun k hk => ?_, fun p hp => ?_⟩
  · rw [h k hk]
    match k, hk with
    | 0, _ => decide
    | 1, _ => decide
    | 2, _ => decide
    | 3, _ => decide
    | 4, _ => decide
    | 5, _ => decide
    | n + 6, h => exact absurd h (by omega)
  · rw [bk0_P] at hp
    exact absurd hp (Nat.not_lt_zero _)
abbrev st_S : ivS := (bk0, fun _ _ => 0, 0, fun _ => 0, 0, -1)
set_option maxHeartbeats 4000000 in
set_option maxRecDepth 100000 in
theorem st_iv (cA : Nat → ClassId) (h_t : Nat) (q1 : Nat) (q2 : Nat) (q1_3 : Nat) (q2_3 : Nat) (q4 : Nat) (q1_5 : Nat) (q2_5 : Nat) (q1_3_5 : Nat) (q2_3_5 : Nat) (q4_5 : Nat) (q1_5_5 : Nat) (q2_5_5 : Nat) (q6_5 : Nat) (q1_7_5 : Nat) (q2_7_5 : Nat) (q8_5 : Nat) (q1_9_5 : Nat) (q2_9_5 : Nat) (q10_5 : Nat) (q1_11_5 : Nat) (q2_11_5 : Nat) (q12_5 : Nat) (q1_13_5 : Nat) (q2_13_5 : Nat) (q14_5 : Nat) (q1_15_5 : Nat) (q2_15_5 : Nat) (q16_5 : Nat) (q1_17_5 : Nat) (q2_17_5 : Nat) (q6 : Nat) (q1_7 : Nat) (q1_2_7 : Nat) (q2_2_7 : Nat) (q3_7 : Nat) (q8 : Nat) (q1_9 : Nat) (q2_9 : Nat) (q10 : Nat) (q1_11 : Nat) (q2_11 : Nat) (q3_11 : Nat) (q4_11 : Nat) (q12 : Nat) (q1_13 : Nat) (q2_13 : Nat) (q3_13 : Nat) (q4_13 : Nat) (q5_13 : Nat) (q14 : Nat) (q1_15 : Nat) (q2_15 : Nat) (q3_15 : Nat) (q4_15 : Nat) (q5_15 : Nat) (q16 : Nat) (q1_17 : Nat) (q2_17 : Nat) (q3_17 : Nat) (q4_17 : Nat) (q5_17 : Nat) (f__3 : Nat → Int32) (f__3_5 : Nat → Int32) (f__5_5 : Nat → Int32) (f__7_5 : Nat → Int32) (f__9_5 : Nat → Int32) (f__11_5 : Nat → Int32) (f__13_5 : Nat → Int32) (f__15_5 : Nat → Int32) (f__17_5 : Nat → Int32) (f__2_7 : Nat → Int32) (hf : ∀ j, j < 6 → f__3 j = uC j) : ivI cA (st_h [h_t, q14, q2_15, q4_15, q3_15, q1_15, q5_15, q2, q1_3, q2_3, q1, q4, q1_5, q8, q1_9, q2_9, q12, q2_13, q4_13, q3_13, q1_13, q5_13, q10, q2_11, q4_11, q3_11, q1_11, q6, q1_7, q1_2_7, q2_2_7, q16, q2_17, q4_17, q3_17, q1_17, q5_17]) (sel8 q2_5 q4_5 q6_5 q8_5 q10_5 q12_5 q14_5 q16_5) (sel8 q1_3_5 q1_5_5 q1_7_5 q1_9_5 q1_11_5 q1_13_5 q1_15_5 q1_17_5) (sel8 q2_3_5 q2_5_5 q2_7_5 q2_9_5 q2_11_5 q2_13_5 q2_15_5 q2_17_5) st_S true (ivW cA (st_h [h_t, q14, q2_15, q4_15, q3_15, q1_15, q5_15, q2, q1_3, q2_3, q1, q4, q1_5, q8, q1_9, q2_9, q12, q2_13, q4_13, q3_13, q1_13, q5_13, q10, q2_11, q4_11, q3_11, q1_11, q6, q1_7, q1_2_7, q2_2_7, q16, q2_17, q4_17, q3_17, q1_17, q5_17]) (sel8 q2_5 q4_5 q6_5 q8_5 q10_5 q12_5 q14_5 q16_5) (sel8 q1_3_5 q1_5_5 q1_7_5 q1_9_5 q1_11_5 q1_13_5 q1_15_5 q1_17_5) (sel8 q2_3_5 q2_5_5 q2_7_5 q2_9_5 q2_11_5 q2_13_5 q2_15_5 q2_17_5) (.ref q3_7) (0 : Int32) (-1 : Int32) (0 : Int32) (0 : Int32) (0 : Int32) (0 : Int32) (fun _ => 0) (fun _ => 0) (fun _ => 0) (fun _ => 0) (fun _ => 0) 40 10 4 1 0 (f__3) (fun _ => 0) (fun _ => 0) (0 : Int32) (0 : Int32) (fun _ => 40) (fun _ => 10) (fun _ => 4) (fun _ => 1) (fun _ => 0) (sel8 f__3_5 f__5_5 f__7_5 f__9_5 f__11_5 f__13_5 f__15_5 f__17_5) (fun _ _ => 0) (fun _ => 0) (fun _ => 0) (0 : Int32) (0 : Int32) (fun _ => 0) (fun _ => 0) (fun _ => 0) (fun _ => 0) (fun _ => 0) (fun _ => 0) (fun _ => 0) (fun _ => 0) (fun _ => 0) (0 : Int32) (0 : Int32) (0 : Int32) (-1 : Int32) (0 : Int32) (0 : Int32) 40 10 4 1 0 (f__2_7) (fun _ => 0) (0 : Int32) (0 : Int32) (fun _ => 0) (fun _ => 0) (fun _ => 0) (fun _ => 0) (fun _ => 0)) :=
  ivI.mk ⟨bk0_ok, TX_0, rfl, rfl, st_cb hf, ⟨0, by decide, rfl, rfl, by decide, fun i hi => absurd hi (Nat.not_lt_zero _)⟩, fun p hp => absurd (bk0_P ▸ hp) (Nat.not_lt_zero _), Or.inl rfl, Or.inl rfl, fun _ => ⟨rfl, rfl⟩⟩
theorem law_end {p : Program} {l : Launch} {e : Env} {s : State} {m : MethodId} {below : List Frame} {meth : Method} {c : Code} {D : va_G} {cA : Nat → ClassId} {b : Nat} (C : Cx p s m meth c code 28 #[Value.ref b] lw_tbl "WidowWatchLaw" D cA (fun q => s.heap.size ≤ q)) (hr : meth.sig.returnType = ret) {cells slots : Nat} (hc : cells ≤ 600086) (hs : slots ≤ 7301442) {ws : va_W} {v : Int32} (hv : v = 1) : lwK p l e s m below meth c D b (lw_Z below #[Value.ref b] s) cells slots ws 1392 [(0, .ref b), (1, .int v)] [] := by
  subst hv
  refine k_iload_n C 1 (pc := 1392) dL_law_1392 rfl rfl ?_
  intro H locs ls hP hD hS hl
  refine va_forget (fun q hq => hS.2.2 q hq) ?_
  refine W.widen (k := 600086) (n := 7301442) hc hs ?_
  exact lw_ret C.1.1 C.1.2.1 hr C.2.2.2.1 dL_law_1393
/-- behind the one turn of the law's loop -/
theorem law_turn {p : Program} {l : Launch} {e : Env} {s : State} {m : MethodId} {below : List Frame} {meth : Method} {c : Code} {D : va_G} {cA : Nat → ClassId} {b : Nat} (C : Cx p s m meth c code 28 #[Value.ref b] lw_tbl "WidowWatchLaw" D cA (fun q => s.heap.size ≤ q)) (hr : meth.sig.returnType = ret) {L : Nat} {xs : Nat → Int32} (hX : va_X b L xs s s.heap) (hbl : b < s.heap.size) {u : Nat} (hu : u ≤ 456000) {ws : va_W} {v : Int32} (hv : v = 1) : lwK p l e s m below meth c D b (lw_Z below #[Value.ref b] s) u (16 * u) ws 1386 [(0, .ref b), (1, .int v), (2, .int (0 : Int32))] [] := by
  have hbA : ¬ (fun q => s.heap.size ≤ q) b := Nat.not_le.mpr hbl
  have hc : u ≤ 600086 := by omega
  have hs : 16 * u ≤ 7301442 := by omega
  refine k_iinc C (pc := 1386) (k := 2) (v := (1 : Int32)) dL_law_1386 rfl (by decide) (Nat.lt_of_lt_of_le (Nat.lt_succ_self _) (Nat.le_of_ble_eq_true rfl)) (lv' := [(2, .int (1 : Int32)), (0, .ref b), (1, .int v)]) rfl ?_
  refine k_goto C (pc := 1389) (tgt := 4) dL_law_1389 (by decide) ?_
  refine k_iload_n C 0 (pc := 4) dL_law_4 rfl rfl ?_
  refine k_aload_n C 1 (pc := 5) dL_law_5 rfl rfl ?_
  refine k_slen C (pc := 6) hX hbl hbA dL_law_6 ?_
  refine k_icmp_ge C (pc := 7) (tgt := 1392) dL_law_7 (by decide) (fun _ => ?_) (fun _ => ?_)
  · refine k_lv (pc := 1392) [1, 2] (lv' := [(0, .ref b), (1, .int v)]) rfl ?_
    exact law_end C hr hc hs hv
  · refine k_iload_n C 0 (pc := 10) dL_law_10 rfl rfl ?_
    refine k_iconst C (pc := 11) (v := (1 : Int32)) dL_law_11 rfl ?_
    refine k_icmp_ge C (pc := 12) (tgt := 1392) dL_law_12 (by decide) (fun _ => ?_) (fun z => absurd (by decide) z)
    refine k_lv (pc := 1392) [1, 2] (lv' := [(0, .ref b), (1, .int v)]) rfl ?_
    exact law_end C hr hc hs hv
def mu0 : Mu := (fun _ => none, fun _ => none, fun _ => none, fun _ => none, fun _ => none, fun _ => none, fun _ => none, fun _ => none, fun _ => none)
theorem LR_0 {cA : Nat → ClassId} {w : va_W} : LR cA w w mu0 := ⟨[], (List.append_nil w).symm, fun _ _ h => (by cases h), fun _ _ h => (by cases h), fun _ _ h => (by cases h), fun _ _ h => (by cases h), fun _ _ h => (by cases h), fun _ _ h => (by cases h), fun _ _ h => (by cases h), fun _ _ h => (by cases h), fun _ _ h => (by cases h)⟩
set_option maxHeartbeats 4000000 in
set_option maxRecDepth 100000 in
theorem whole_start {p : Program} {e : Env} {s : State} {m : MethodId} {below : List Frame} {meth : Method} {c : Code} (l : Launch) (hflags : l.flags = flags0) {b L : Nat} {xs : Nat → Int32} (hL : L ≤ 260) (C0 : lw_At p s m meth c b L xs) : W p l e room_1 s m #[Value.ref b] below meth c s.heap [] 0 0 (lw_Z below #[Value.ref b] s) (entryFrame m ([Value.ref b] : List Value).toArray 28) := by
  obtain ⟨hx, hb, hr, hml, hown, hts, hX, hbl, hlocks, hgv⟩ := C0
  obtain ⟨D, cA, hE, hF⟩ := st_ev hts hgv
  have hst : l.stackTraces = false := by
    unfold Launch.stackTraces
    rw [hflags]
    decide
  have C : Cx p s m meth c code 28 #[Value.ref b] lw_tbl "WidowWatchLaw" D cA (fun q => s.heap.size ≤ q) := ⟨⟨hx, hb, hml, hown, hts⟩, hE.1.1, fun q h => h, hlocks, fun w hw => W0L hw⟩
  have hbA : ¬ (fun q => s.heap.size ≤ q) b := Nat.not_le.mpr hbl
  rw [lg_entry_eq]
  have K : lwK p l e s m below meth c D b (lw_Z below #[Value.ref b] s) 0 0 [] 0 (lv_args 0 [Value.ref b]) [] := by
    refine k_eq (ws' := []) (lv' := [(0, .ref b)]) (st' := []) rfl rfl rfl ?_
    refine k_iconst C (pc := 0) (v := (1 : Int32)) dL_law_0 rfl ?_
    refine k_istore_n C (pc := 1) dL_law_1 rfl (Nat.lt_of_lt_of_le (Nat.lt_succ_self _) (Nat.le_of_ble_eq_true rfl)) (lv' := [(1, .int (1 : Int32)), (0, .ref b)]) rfl ?_
    refine k_iconst C (pc := 2) (v := (0 : Int32)) dL_law_2 rfl ?_
    refine k_istore_n C (pc := 3) dL_law_3 rfl (Nat.lt_of_lt_of_le (Nat.lt_succ_self _) (Nat.le_of_ble_eq_true rfl)) (lv' := [(2, .int (0 : Int32)), (1, .int (1 : Int32)), (0, .ref b)]) rfl ?_
    refine k_iload_n C 0 (pc := 4) dL_law_4 rfl rfl ?_
    refine k_aload_n C 2 (pc := 5) dL_law_5 rfl rfl ?_
    refine k_slen C (pc := 6) hX hbl hbA dL_law_6 ?_
    refine k_icmp_ge C (pc := 7) (tgt := 1392) dL_law_7 (by decide) (fun _ => ?_) (fun c_ => ?_)
    · refine k_lv (pc := 1392) [2, 1] (lv' := [(0, .ref b), (1, .int (1 : Int32))]) rfl ?_
      exact law_end C hr (Nat.zero_le _) (Nat.zero_le _) rfl
    have hL1 : 0 < L := by
      rcases Nat.eq_zero_or_pos L with z | z
      · subst z
        exact absurd (show nI 0 ≤ nI 0 from Int32.le_refl _) c_
      · exact z
    refine k_iload_n C 0 (pc := 10) dL_law_10 rfl rfl ?_
    refine k_iconst C (pc := 11) (v := (1 : Int32)) dL_law_11 rfl ?_
    refine k_icmp_ge C (pc := 12) (tgt := 1392) dL_law_12 (by decide) (fun z => absurd z (by decide)) (fun _ => ?_)
    refine k_iload_n C 1 (pc := 15) dL_law_15 rfl rfl ?_
    refine k_if_eq C (pc := 16) (tgt := 1392) dL_law_16 (by decide) (fun z => absurd z (by decide)) (fun _ => ?_)
    refine k_new C (pc := 19) (fs := [.null, .int 0, .int 0, .null, .null, .null, .null, .null, .null, .null, .null, .int 0, .int 0]) inW_X6 tyX6 tyX6_ok tW_1_31 tW_1_32 tW_1_1 (ci := 6) rfl (fun j hj => match j, hj with | 0, _ => rfl | 1, _ => rfl | 2, _ => rfl | 3, _ => rfl | 4, _ => rfl | 5, _ => rfl | 6, _ => rfl | 7, _ => rfl | 8, _ => rfl | 9, _ => rfl | 10, _ => rfl | 11, _ => rfl | 12, _ => rfl | n + 13, h => absurd h (by omega)) (Nat.le_of_ble_eq_true rfl) (Nat.le_of_ble_eq_true rfl) dL_law_19 (fun q0 => ?_)
    refine k_eq (pc := 22) (ws' := [(q0, .inr (6, [.null, .int 0, .int 0, .null, .null, .null, .null, .null, .null, .null, .null, .int 0, .int 0]))]) rfl rfl rfl ?_
    refine k_dup C (pc := 22) dL_law_22 rfl ?_
    refine k_callv C (pc := 23) [0] [] (wc := [(q0, .inr (6, [.null, .int 0, .int 0, .null, .null, .null, .null, .null, .null, .null, .null, .int 0, .int 0]))]) (wr := []) rfl rfl rfl rfl (by decide) (k_runIC C hF (As := []) (rest := [.ref q0]) (conX6_init l D cA q0) ⟨k_cwB C tW_1_35 tW_1_33 tW_1_1 okX6_init rfl rfl ⟨Nat.le_of_ble_eq_true rfl, Nat.le_of_ble_eq_true rfl⟩, rfl, C.w tW_1_34⟩ rfl rfl (Nat.le_of_ble_eq_true rfl) dL_law_23 ⟨Nat.le_of_ble_eq_true rfl, Nat.le_of_ble_eq_true rfl⟩) (fun w1_ hw_ => ?_)
    obtain ⟨q1, q2, q1_3, q2_3, f__3, q4, q1_5, q2_5, q1_3_5, q2_3_5, f__3_5, q4_5, q1_5_5, q2_5_5, f__5_5, q6_5, q1_7_5, q2_7_5, f__7_5, q8_5, q1_9_5, q2_9_5, f__9_5, q10_5, q1_11_5, q2_11_5, f__11_5, q12_5, q1_13_5, q2_13_5, f__13_5, q14_5, q1_15_5, q2_15_5, f__15_5, q16_5, q1_17_5, q2_17_5, f__17_5, q6, q1_7, q1_2_7, q2_2_7, f__2_7, q3_7, q8, q1_9, q2_9, q10, q1_11, q2_11, q3_11, q4_11, q12, q1_13, q2_13, q3_13, q4_13, q5_13, q14, q1_15, q2_15, q3_15, q4_15, q5_15, q16, q1_17, q2_17, q3_17, q4_17, q5_17, rfl, hf0, hf1, hf2, hf3, hf4, hf5, hf6, hf7, hf8, hf9⟩ := hw_
    refine k_ws (pc := 26) [0, 50, 52, 54, 53, 51, 55, 2, 3, 4, 1, 5, 6, 7, 8, 9, 10, 11, 12, 13, 14, 15, 16, 17, 18, 19, 20, 21, 22, 23, 24, 25, 26, 27, 28, 29, 30, 36, 37, 38, 44, 46, 48, 47, 45, 49, 39, 41, 43, 42, 40, 31, 32, 33, 34, 56, 58, 60, 59, 57, 61] (ws' := ivW cA (st_h [q0, q14, q2_15, q4_15, q3_15, q1_15, q5_15, q2, q1_3, q2_3, q1, q4, q1_5, q8, q1_9, q2_9, q12, q2_13, q4_13, q3_13, q1_13, q5_13, q10, q2_11, q4_11, q3_11, q1_11, q6, q1_7, q1_2_7, q2_2_7, q16, q2_17, q4_17, q3_17, q1_17, q5_17]) (sel8 q2_5 q4_5 q6_5 q8_5 q10_5 q12_5 q14_5 q16_5) (sel8 q1_3_5 q1_5_5 q1_7_5 q1_9_5 q1_11_5 q1_13_5 q1_15_5 q1_17_5) (sel8 q2_3_5 q2_5_5 q2_7_5 q2_9_5 q2_11_5 q2_13_5 q2_15_5 q2_17_5) (.ref q3_7) (0 : Int32) (-1 : Int32) (0 : Int32) (0 : Int32) (0 : Int32) (0 : Int32) (fun _ => 0) (fun _ => 0) (fun _ => 0) (fun _ => 0) (fun _ => 0) 40 10 4 1 0 (f__3) (fun _ => 0) (fun _ => 0) (0 : Int32) (0 : Int32) (fun _ => 40) (fun _ => 10) (fun _ => 4) (fun _ => 1) (fun _ => 0) (sel8 f__3_5 f__5_5 f__7_5 f__9_5 f__11_5 f__13_5 f__15_5 f__17_5) (fun _ _ => 0) (fun _ => 0) (fun _ => 0) (0 : Int32) (0 : Int32) (fun _ => 0) (fun _ => 0) (fun _ => 0) (fun _ => 0) (fun _ => 0) (fun _ => 0) (fun _ => 0) (fun _ => 0) (fun _ => 0) (0 : Int32) (0 : Int32) (0 : Int32) (-1 : Int32) (0 : Int32) (0 : Int32) 40 10 4 1 0 (f__2_7) (fun _ => 0) (0 : Int32) (0 : Int32) (fun _ => 0) (fun _ => 0) (fun _ => 0) (fun _ => 0) (fun _ => 0)) rfl rfl ?_
    have hI := st_iv cA q0 q1 q2 q1_3 q2_3 q4 q1_5 q2_5 q1_3_5 q2_3_5 q4_5 q1_5_5 q2_5_5 q6_5 q1_7_5 q2_7_5 q8_5 q1_9_5 q2_9_5 q10_5 q1_11_5 q2_11_5 q12_5 q1_13_5 q2_13_5 q14_5 q1_15_5 q2_15_5 q16_5 q1_17_5 q2_17_5 q6 q1_7 q1_2_7 q2_2_7 q3_7 q8 q1_9 q2_9 q10 q1_11 q2_11 q3_11 q4_11 q12 q1_13 q2_13 q3_13 q4_13 q5_13 q14 q1_15 q2_15 q3_15 q4_15 q5_15 q16 q1_17 q2_17 q3_17 q4_17 q5_17 f__3 f__3_5 f__5_5 f__7_5 f__9_5 f__11_5 f__13_5 f__15_5 f__17_5 f__2_7 hf0
    generalize hw_ : ivW cA (st_h [q0, q14, q2_15, q4_15, q3_15, q1_15, q5_15, q2, q1_3, q2_3, q1, q4, q1_5, q8, q1_9, q2_9, q12, q2_13, q4_13, q3_13, q1_13, q5_13, q10, q2_11, q4_11, q3_11, q1_11, q6, q1_7, q1_2_7, q2_2_7, q16, q2_17, q4_17, q3_17, q1_17, q5_17]) (sel8 q2_5 q4_5 q6_5 q8_5 q10_5 q12_5 q14_5 q16_5) (sel8 q1_3_5 q1_5_5 q1_7_5 q1_9_5 q1_11_5 q1_13_5 q1_15_5 q1_17_5) (sel8 q2_3_5 q2_5_5 q2_7_5 q2_9_5 q2_11_5 q2_13_5 q2_15_5 q2_17_5) (.ref q3_7) (0 : Int32) (-1 : Int32) (0 : Int32) (0 : Int32) (0 : Int32) (0 : Int32) (fun _ => 0) (fun _ => 0) (fun _ => 0) (fun _ => 0) (fun _ => 0) 40 10 4 1 0 (f__3) (fun _ => 0) (fun _ => 0) (0 : Int32) (0 : Int32) (fun _ => 40) (fun _ => 10) (fun _ => 4) (fun _ => 1) (fun _ => 0) (sel8 f__3_5 f__5_5 f__7_5 f__9_5 f__11_5 f__13_5 f__15_5 f__17_5) (fun _ _ => 0) (fun _ => 0) (fun _ => 0) (0 : Int32) (0 : Int32) (fun _ => 0) (fun _ => 0) (fun _ => 0) (fun _ => 0) (fun _ => 0) (fun _ => 0) (fun _ => 0) (fun _ => 0) (fun _ => 0) (0 : Int32) (0 : Int32) (0 : Int32) (-1 : Int32) (0 : Int32) (0 : Int32) 40 10 4 1 0 (f__2_7) (fun _ => 0) (0 : Int32) (0 : Int32) (fun _ => 0) (fun _ => 0) (fun _ => 0) (fun _ => 0) (fun _ => 0) = w at hI ⊢
    obtain ⟨h, eh⟩ : ∃ h, h = (st_h [q0, q14, q2_15, q4_15, q3_15, q1_15, q5_15, q2, q1_3, q2_3, q1, q4, q1_5, q8, q1_9, q2_9, q12, q2_13, q4_13, q3_13, q1_13, q5_13, q10, q2_11, q4_11, q3_11, q1_11, q6, q1_7, q1_2_7, q2_2_7, q16, q2_17, q4_17, q3_17, q1_17, q5_17]) := ⟨_, rfl⟩
    obtain ⟨ab, eb⟩ : ∃ h, h = (sel8 q2_5 q4_5 q6_5 q8_5 q10_5 q12_5 q14_5 q16_5) := ⟨_, rfl⟩
    obtain ⟨ac, ec⟩ : ∃ h, h = (sel8 q1_3_5 q1_5_5 q1_7_5 q1_9_5 q1_11_5 q1_13_5 q1_15_5 q1_17_5) := ⟨_, rfl⟩
    obtain ⟨ar, er⟩ : ∃ h, h = (sel8 q2_3_5 q2_5_5 q2_7_5 q2_9_5 q2_11_5 q2_13_5 q2_15_5 q2_17_5) := ⟨_, rfl⟩
    rw [← eh, ← eb, ← ec, ← er] at hI
    have e0 : q0 = h 0 := by rw [eh]; rfl
    rw [e0]
    clear hw_
    have hI := hI.weak
    refine k_astore_n C (pc := 26) dL_law_26 rfl (Nat.lt_of_lt_of_le (Nat.lt_succ_self _) (Nat.le_of_ble_eq_true rfl)) (lv' := [(3, .ref (h 0)), (2, .int (0 : Int32)), (1, .int (1 : Int32)), (0, .ref b)]) rfl ?_
    have hR : LR cA w w mu0 := LR_0
    refine k_widen (k := 1100) (n := 16 * 1100) (Nat.le_of_ble_eq_true rfl) (Nat.le_of_ble_eq_true rfl) ?_
    refine k_bipush C (pc := 27) (v := (8 : Int32)) dL_law_27 (by decide) ?_
    refine k_eq (pc := 29) (st' := [.int (nI 8)]) rfl rfl rfl ?_
    refine l_newI C hR (pc := 29) (u := 1100) (N := 8) (Nat.le_of_ble_eq_true rfl) (Nat.le_of_ble_eq_true rfl) (Nat.le_of_ble_eq_true rfl) dL_law_29 (fun v4 w4 h4 hR => ?_)
    refine k_astore C (pc := 31) dL_law_31 (Nat.lt_of_lt_of_le (Nat.lt_succ_self _) (Nat.le_of_ble_eq_true rfl)) (lv' := [(4, .ref v4), (3, .ref (h 0)), (2, .int (0 : Int32)), (1, .int (1 : Int32)), (0, .ref b)]) rfl ?_
    refine l_newR C hR (pc := 33) (u := 1100 + (1 + 8 / 16)) tW_2_157 tW_2_158 tW_1_8 (Nat.le_of_ble_eq_true rfl) (Nat.le_of_ble_eq_true rfl) dL_law_33 (fun v5 w5 h5 hR => ?_)
    refine k_dup C (pc := 36) dL_law_36 rfl ?_
    refine k_aload_n C 4 (pc := 37) dL_law_37 rfl rfl ?_
    refine k_iload_n C 2 (pc := 38) dL_law_38 rfl rfl ?_
    refine k_sld C (pc := 39) (i := (0 : Int32)) hX hbl hbA (show vp_in (nI 0) L from vp_in_nI hL1 (by omega)) dL_law_39 ?_
    generalize xs ((0 : Int32)).toNatClampNeg = x
    refine k_callAv C (pc := 40) (k_runIC C hF (As := [.int x]) (rest := [.ref v5]) (conX10_init l D cA _ v5 x (fun m1 => m1 = sR (sR (sI mu0 v4 (8, fun _ => 0)) v5 0) v5 x) ⟨0, up_s, fun _ e => e⟩ hR) ⟨k_cwB C tW_2_161 tW_2_159 tW_1_8 okX10_init rfl rfl ⟨Nat.le_of_ble_eq_true rfl, Nat.le_of_ble_eq_true rfl⟩, rfl, C.w tW_2_160⟩ rfl rfl (Nat.le_of_ble_eq_true rfl) dL_law_40 ⟨Nat.le_of_ble_eq_true rfl, Nat.le_of_ble_eq_true rfl⟩) (fun w1 hw_ => ?_)
    obtain ⟨m1, hR, e1⟩ := hw_
    have hb8 : mI m1 v4 = some (8, fun _ => 0) := by rw [e1]; exact up_s
    have hr8 : mR m1 v5 = some x := by rw [e1]; exact up_s
    refine k_astore C (pc := 43) dL_law_43 (Nat.lt_of_lt_of_le (Nat.lt_succ_self _) (Nat.le_of_ble_eq_true rfl)) (lv' := [(5, .ref v5), (4, .ref v4), (3, .ref (h 0)), (2, .int (0 : Int32)), (1, .int (1 : Int32)), (0, .ref b)]) rfl ?_
    refine k_widen (k := 1200) (n := 16 * 1200) (Nat.le_of_ble_eq_true rfl) (Nat.le_of_ble_eq_true rfl) ?_
    exact conL_law C hE hF hst h ab ac ar 456000 ⟨Nat.le_of_ble_eq_true rfl, Nat.le_of_ble_eq_true rfl⟩ (fun u ws v hu hv => law_turn C hr hX hbl hu hv) st_S m1 1200 1 v4 v5 (law_s hb8 hr8 (by omega)) hI hR
  exact K s.heap [] _ (fun k q h => by simp at h) ⟨fun i j p q h => by simp at h, fun k q h => by simp at h⟩ va_S.rf (lv_entry [.ref b] (Nat.le_of_ble_eq_true rfl))
-- ===== YOUR PART ENDS =====
