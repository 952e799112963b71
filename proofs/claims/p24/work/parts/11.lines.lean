/-! WidowWatch$Lines.countOf(II)I -/
theorem dX2_countOf_0 : decode cX2_countOf 0 = .ok (.aload_n 0, 1) := by decide +kernel
theorem dX2_countOf_1 : decode cX2_countOf 1 = .ok (.getfield 9, 3) := by decide +kernel
theorem dX2_countOf_4 : decode cX2_countOf 4 = .ok (.iload_n 1, 1) := by decide +kernel
theorem dX2_countOf_5 : decode cX2_countOf 5 = .ok (.iconst 3, 1) := by decide +kernel
theorem dX2_countOf_6 : decode cX2_countOf 6 = .ok (.imul, 1) := by decide +kernel
theorem dX2_countOf_7 : decode cX2_countOf 7 = .ok (.iload_n 2, 1) := by decide +kernel
theorem dX2_countOf_8 : decode cX2_countOf 8 = .ok (.iadd, 1) := by decide +kernel
theorem dX2_countOf_9 : decode cX2_countOf 9 = .ok (.invokestatic 18, 3) := by decide +kernel
theorem dX2_countOf_12 : decode cX2_countOf 12 = .ok (.ireturn, 1) := by decide +kernel
theorem okX2_countOf : okY yX2_countOf 2 := ⟨by decide +kernel, by decide +kernel, by decide +kernel⟩
def wpX2_countOf (counts : Nat → Int32) (a1 : Int32) (a2 : Int32) (Post : Int32 → Prop) : Prop := wpX6_get 48 counts ((a1 * (3 : Int32)) + a2) (fun r_1 => Post r_1)
set_option maxHeartbeats 4000000 in
set_option maxRecDepth 100000 in
theorem conX2_countOf (l : Launch) (D : va_G) (cA : Nat → ClassId) (h_t h_t_counts : Nat) (u_t_taken : Value) (counts : Nat → Int32) (a1 : Int32) (a2 : Int32) (Post : Int32 → Prop) (H : wpX2_countOf counts a1 a2 Post) : Con l D cA yX2_countOf (wm yX2_countOf cX2_countOf 3 (some .int)) { frames := 1, cells := 0, slots := 0, locals := 21 } [(h_t, .inr (2, [.ref h_t_counts, u_t_taken])), (h_t_counts, .inl (cA 0, 48, .inl counts))] [.ref h_t, .int a1, .int a2] 0 0 (PI (fun r w1 => w1 = [(h_t, .inr (2, [.ref h_t_counts, u_t_taken])), (h_t_counts, .inl (cA 0, 48, .inl counts))] ∧ Post r)) := by
  refine Con.of (by decide) (Nat.le_of_ble_eq_true rfl) ?_
  intro p e s m args below meth c C hr hini
  refine k_eq (ws' := [(h_t, .inr (2, [.ref h_t_counts, u_t_taken])), (h_t_counts, .inl (cA 0, 48, .inl counts))]) (lv' := [(0, .ref h_t), (1, .int a1), (2, .int a2)]) (st' := []) rfl rfl rfl ?_
  refine k_aload_n C 0 (pc := 0) dX2_countOf_0 rfl rfl ?_
  refine k_get C (pc := 1) inW_X2 0 0 rfl rfl (Nat.lt_of_lt_of_le (Nat.lt_succ_self _) (Nat.le_of_ble_eq_true rfl)) (ref := "WidowWatch$Lines") tW_1_149 rfl rfl dX2_countOf_1 ?_
  refine k_iload_n C 1 (pc := 4) dX2_countOf_4 rfl rfl ?_
  refine k_iconst C (pc := 5) (v := (3 : Int32)) dX2_countOf_5 rfl ?_
  refine k_imul C (pc := 6) dX2_countOf_6 ?_
  refine k_iload_n C 2 (pc := 7) dX2_countOf_7 rfl rfl ?_
  refine k_iadd C (pc := 8) dX2_countOf_8 ?_
  refine k_calli C (pc := 9) [1] [0] (wc := [(h_t_counts, .inl (cA 0, 48, .inl counts))]) (wr := [(h_t, .inr (2, [.ref h_t_counts, u_t_taken]))]) rfl rfl rfl rfl (by decide) (k_runSN C (As := [.ref h_t_counts, .int ((a1 * (3 : Int32)) + a2)]) (rest := []) (conX6_get l D cA h_t_counts 48 counts ((a1 * (3 : Int32)) + a2)  _ H) ⟨k_cwN C tW_2_46 (k_n7 C) tW_1_1 okX6_get rfl rfl ⟨Nat.le_of_ble_eq_true rfl, Nat.le_of_ble_eq_true rfl⟩, C.w tW_2_45, trivial⟩ rfl rfl (Nat.le_of_ble_eq_true rfl) dX2_countOf_9 ⟨Nat.le_of_ble_eq_true rfl, Nat.le_of_ble_eq_true rfl⟩) (fun r_1 w1_ hw_ => ?_)
  obtain ⟨rfl, H⟩ := hw_
  refine k_ws [0, 1] (ws' := [(h_t, .inr (2, [.ref h_t_counts, u_t_taken])), (h_t_counts, .inl (cA 0, 48, .inl counts))]) rfl rfl ?_
  exact k_iret C (pc := 12) hr dX2_countOf_12 ⟨rfl, H⟩
/-! WidowWatch$Lines.takenBy(III)I -/
theorem dX2_takenBy_0 : decode cX2_takenBy 0 = .ok (.aload_n 0, 1) := by decide +kernel
theorem dX2_takenBy_1 : decode cX2_takenBy 1 = .ok (.getfield 15, 3) := by decide +kernel
theorem dX2_takenBy_4 : decode cX2_takenBy 4 = .ok (.iload_n 1, 1) := by decide +kernel
theorem dX2_takenBy_5 : decode cX2_takenBy 5 = .ok (.iconst 3, 1) := by decide +kernel
theorem dX2_takenBy_6 : decode cX2_takenBy 6 = .ok (.imul, 1) := by decide +kernel
theorem dX2_takenBy_7 : decode cX2_takenBy 7 = .ok (.iload_n 2, 1) := by decide +kernel
theorem dX2_takenBy_8 : decode cX2_takenBy 8 = .ok (.iadd, 1) := by decide +kernel
theorem dX2_takenBy_9 : decode cX2_takenBy 9 = .ok (.bipush 30, 2) := by decide +kernel
theorem dX2_takenBy_11 : decode cX2_takenBy 11 = .ok (.imul, 1) := by decide +kernel
theorem dX2_takenBy_12 : decode cX2_takenBy 12 = .ok (.iload_n 3, 1) := by decide +kernel
theorem dX2_takenBy_13 : decode cX2_takenBy 13 = .ok (.iadd, 1) := by decide +kernel
theorem dX2_takenBy_14 : decode cX2_takenBy 14 = .ok (.invokestatic 18, 3) := by decide +kernel
theorem dX2_takenBy_17 : decode cX2_takenBy 17 = .ok (.ireturn, 1) := by decide +kernel
theorem okX2_takenBy : okY yX2_takenBy 3 := ⟨by decide +kernel, by decide +kernel, by decide +kernel⟩
def wpX2_takenBy (taken : Nat → Int32) (a1 : Int32) (a2 : Int32) (a3 : Int32) (Post : Int32 → Prop) : Prop := wpX6_get 1440 taken ((((a1 * (3 : Int32)) + a2) * (30 : Int32)) + a3) (fun r_1 => Post r_1)
set_option maxHeartbeats 4000000 in
set_option maxRecDepth 100000 in
theorem conX2_takenBy (l : Launch) (D : va_G) (cA : Nat → ClassId) (h_t h_t_taken : Nat) (u_t_counts : Value) (taken : Nat → Int32) (a1 : Int32) (a2 : Int32) (a3 : Int32) (Post : Int32 → Prop) (H : wpX2_takenBy taken a1 a2 a3 Post) : Con l D cA yX2_takenBy (wm yX2_takenBy cX2_takenBy 4 (some .int)) { frames := 1, cells := 0, slots := 0, locals := 21 } [(h_t, .inr (2, [u_t_counts, .ref h_t_taken])), (h_t_taken, .inl (cA 0, 1440, .inl taken))] [.ref h_t, .int a1, .int a2, .int a3] 0 0 (PI (fun r w1 => w1 = [(h_t, .inr (2, [u_t_counts, .ref h_t_taken])), (h_t_taken, .inl (cA 0, 1440, .inl taken))] ∧ Post r)) := by
  refine Con.of (by decide) (Nat.le_of_ble_eq_true rfl) ?_
  intro p e s m args below meth c C hr hini
  refine k_eq (ws' := [(h_t, .inr (2, [u_t_counts, .ref h_t_taken])), (h_t_taken, .inl (cA 0, 1440, .inl taken))]) (lv' := [(0, .ref h_t), (1, .int a1), (2, .int a2), (3, .int a3)]) (st' := []) rfl rfl rfl ?_
  refine k_aload_n C 0 (pc := 0) dX2_takenBy_0 rfl rfl ?_
  refine k_get C (pc := 1) inW_X2 0 1 rfl rfl (Nat.lt_of_lt_of_le (Nat.lt_succ_self _) (Nat.le_of_ble_eq_true rfl)) (ref := "WidowWatch$Lines") tW_1_150 rfl rfl dX2_takenBy_1 ?_
  refine k_iload_n C 1 (pc := 4) dX2_takenBy_4 rfl rfl ?_
  refine k_iconst C (pc := 5) (v := (3 : Int32)) dX2_takenBy_5 rfl ?_
  refine k_imul C (pc := 6) dX2_takenBy_6 ?_
  refine k_iload_n C 2 (pc := 7) dX2_takenBy_7 rfl rfl ?_
  refine k_iadd C (pc := 8) dX2_takenBy_8 ?_
  refine k_bipush C (pc := 9) (v := (30 : Int32)) dX2_takenBy_9 (by decide) ?_
  refine k_imul C (pc := 11) dX2_takenBy_11 ?_
  refine k_iload_n C 3 (pc := 12) dX2_takenBy_12 rfl rfl ?_
  refine k_iadd C (pc := 13) dX2_takenBy_13 ?_
  refine k_calli C (pc := 14) [1] [0] (wc := [(h_t_taken, .inl (cA 0, 1440, .inl taken))]) (wr := [(h_t, .inr (2, [u_t_counts, .ref h_t_taken]))]) rfl rfl rfl rfl (by decide) (k_runSN C (As := [.ref h_t_taken, .int ((((a1 * (3 : Int32)) + a2) * (30 : Int32)) + a3)]) (rest := []) (conX6_get l D cA h_t_taken 1440 taken ((((a1 * (3 : Int32)) + a2) * (30 : Int32)) + a3)  _ H) ⟨k_cwN C tW_2_46 (k_n7 C) tW_1_1 okX6_get rfl rfl ⟨Nat.le_of_ble_eq_true rfl, Nat.le_of_ble_eq_true rfl⟩, C.w tW_2_45, trivial⟩ rfl rfl (Nat.le_of_ble_eq_true rfl) dX2_takenBy_14 ⟨Nat.le_of_ble_eq_true rfl, Nat.le_of_ble_eq_true rfl⟩) (fun r_1 w1_ hw_ => ?_)
  obtain ⟨rfl, H⟩ := hw_
  refine k_ws [0, 1] (ws' := [(h_t, .inr (2, [u_t_counts, .ref h_t_taken])), (h_t_taken, .inl (cA 0, 1440, .inl taken))]) rfl rfl ?_
  exact k_iret C (pc := 17) hr dX2_takenBy_17 ⟨rfl, H⟩
/-! WidowWatch$Lines.breakUp(LWidowWatch$Book;II)V -/
theorem dX2_breakUp_0 : decode cX2_breakUp 0 = .ok (.iload_n 2, 1) := by decide +kernel
theorem dX2_breakUp_1 : decode cX2_breakUp 1 = .ok (.iconst 3, 1) := by decide +kernel
theorem dX2_breakUp_2 : decode cX2_breakUp 2 = .ok (.imul, 1) := by decide +kernel
theorem dX2_breakUp_3 : decode cX2_breakUp 3 = .ok (.iload_n 3, 1) := by decide +kernel
theorem dX2_breakUp_4 : decode cX2_breakUp 4 = .ok (.iadd, 1) := by decide +kernel
theorem dX2_breakUp_5 : decode cX2_breakUp 5 = .ok (.istore 4, 2) := by decide +kernel
theorem dX2_breakUp_7 : decode cX2_breakUp 7 = .ok (.aload_n 1, 1) := by decide +kernel
theorem dX2_breakUp_8 : decode cX2_breakUp 8 = .ok (.iload_n 3, 1) := by decide +kernel
theorem dX2_breakUp_9 : decode cX2_breakUp 9 = .ok (.invokevirtual 32, 3) := by decide +kernel
theorem dX2_breakUp_12 : decode cX2_breakUp 12 = .ok (.istore 5, 2) := by decide +kernel
theorem dX2_breakUp_14 : decode cX2_breakUp 14 = .ok (.aload_n 1, 1) := by decide +kernel
theorem dX2_breakUp_15 : decode cX2_breakUp 15 = .ok (.iload_n 2, 1) := by decide +kernel
theorem dX2_breakUp_16 : decode cX2_breakUp 16 = .ok (.invokevirtual 36, 3) := by decide +kernel
theorem dX2_breakUp_19 : decode cX2_breakUp 19 = .ok (.istore 6, 2) := by decide +kernel
theorem dX2_breakUp_21 : decode cX2_breakUp 21 = .ok (.iconst 0, 1) := by decide +kernel
theorem dX2_breakUp_22 : decode cX2_breakUp 22 = .ok (.istore 7, 2) := by decide +kernel
theorem dX2_breakUp_24 : decode cX2_breakUp 24 = .ok (.iconst 0, 1) := by decide +kernel
theorem dX2_breakUp_25 : decode cX2_breakUp 25 = .ok (.istore 8, 2) := by decide +kernel
theorem dX2_breakUp_27 : decode cX2_breakUp 27 = .ok (.iconst 0, 1) := by decide +kernel
theorem dX2_breakUp_28 : decode cX2_breakUp 28 = .ok (.istore 9, 2) := by decide +kernel
theorem dX2_breakUp_30 : decode cX2_breakUp 30 = .ok (.iload 9, 2) := by decide +kernel
theorem dX2_breakUp_32 : decode cX2_breakUp 32 = .ok (.iload 6, 2) := by decide +kernel
theorem dX2_breakUp_34 : decode cX2_breakUp 34 = .ok (.if_icmp .ge 73, 3) := by decide +kernel
theorem dX2_breakUp_37 : decode cX2_breakUp 37 = .ok (.aload_n 1, 1) := by decide +kernel
theorem dX2_breakUp_38 : decode cX2_breakUp 38 = .ok (.iload_n 2, 1) := by decide +kernel
theorem dX2_breakUp_39 : decode cX2_breakUp 39 = .ok (.iload 9, 2) := by decide +kernel
theorem dX2_breakUp_41 : decode cX2_breakUp 41 = .ok (.invokevirtual 39, 3) := by decide +kernel
theorem dX2_breakUp_44 : decode cX2_breakUp 44 = .ok (.istore 10, 2) := by decide +kernel
theorem dX2_breakUp_46 : decode cX2_breakUp 46 = .ok (.iload 7, 2) := by decide +kernel
theorem dX2_breakUp_48 : decode cX2_breakUp 48 = .ok (.ifCond .le 27, 3) := by decide +kernel
theorem dX2_breakUp_51 : decode cX2_breakUp 51 = .ok (.iload 8, 2) := by decide +kernel
theorem dX2_breakUp_53 : decode cX2_breakUp 53 = .ok (.iconst 1, 1) := by decide +kernel
theorem dX2_breakUp_54 : decode cX2_breakUp 54 = .ok (.iadd, 1) := by decide +kernel
theorem dX2_breakUp_55 : decode cX2_breakUp 55 = .ok (.iload 10, 2) := by decide +kernel
theorem dX2_breakUp_57 : decode cX2_breakUp 57 = .ok (.iadd, 1) := by decide +kernel
theorem dX2_breakUp_58 : decode cX2_breakUp 58 = .ok (.iload 5, 2) := by decide +kernel
theorem dX2_breakUp_60 : decode cX2_breakUp 60 = .ok (.if_icmp .gt 15, 3) := by decide +kernel
theorem dX2_breakUp_63 : decode cX2_breakUp 63 = .ok (.iload 8, 2) := by decide +kernel
theorem dX2_breakUp_65 : decode cX2_breakUp 65 = .ok (.iconst 1, 1) := by decide +kernel
theorem dX2_breakUp_66 : decode cX2_breakUp 66 = .ok (.iload 10, 2) := by decide +kernel
theorem dX2_breakUp_68 : decode cX2_breakUp 68 = .ok (.iadd, 1) := by decide +kernel
theorem dX2_breakUp_69 : decode cX2_breakUp 69 = .ok (.iadd, 1) := by decide +kernel
theorem dX2_breakUp_70 : decode cX2_breakUp 70 = .ok (.istore 8, 2) := by decide +kernel
theorem dX2_breakUp_72 : decode cX2_breakUp 72 = .ok (.goto 10, 3) := by decide +kernel
theorem dX2_breakUp_75 : decode cX2_breakUp 75 = .ok (.iinc 7 1, 3) := by decide +kernel
theorem dX2_breakUp_78 : decode cX2_breakUp 78 = .ok (.iload 10, 2) := by decide +kernel
theorem dX2_breakUp_80 : decode cX2_breakUp 80 = .ok (.istore 8, 2) := by decide +kernel
theorem dX2_breakUp_82 : decode cX2_breakUp 82 = .ok (.aload_n 0, 1) := by decide +kernel
theorem dX2_breakUp_83 : decode cX2_breakUp 83 = .ok (.getfield 15, 3) := by decide +kernel
theorem dX2_breakUp_86 : decode cX2_breakUp 86 = .ok (.iload 4, 2) := by decide +kernel
theorem dX2_breakUp_88 : decode cX2_breakUp 88 = .ok (.bipush 30, 2) := by decide +kernel
theorem dX2_breakUp_90 : decode cX2_breakUp 90 = .ok (.imul, 1) := by decide +kernel
theorem dX2_breakUp_91 : decode cX2_breakUp 91 = .ok (.iload 7, 2) := by decide +kernel
theorem dX2_breakUp_93 : decode cX2_breakUp 93 = .ok (.iadd, 1) := by decide +kernel
theorem dX2_breakUp_94 : decode cX2_breakUp 94 = .ok (.iconst 1, 1) := by decide +kernel
theorem dX2_breakUp_95 : decode cX2_breakUp 95 = .ok (.isub, 1) := by decide +kernel
theorem dX2_breakUp_96 : decode cX2_breakUp 96 = .ok (.iload 8, 2) := by decide +kernel
theorem dX2_breakUp_98 : decode cX2_breakUp 98 = .ok (.invokestatic 43, 3) := by decide +kernel
theorem dX2_breakUp_101 : decode cX2_breakUp 101 = .ok (.iinc 9 1, 3) := by decide +kernel
theorem dX2_breakUp_104 : decode cX2_breakUp 104 = .ok (.goto (-74), 3) := by decide +kernel
theorem dX2_breakUp_107 : decode cX2_breakUp 107 = .ok (.aload_n 0, 1) := by decide +kernel
theorem dX2_breakUp_108 : decode cX2_breakUp 108 = .ok (.getfield 9, 3) := by decide +kernel
theorem dX2_breakUp_111 : decode cX2_breakUp 111 = .ok (.iload 4, 2) := by decide +kernel
theorem dX2_breakUp_113 : decode cX2_breakUp 113 = .ok (.iload 7, 2) := by decide +kernel
theorem dX2_breakUp_115 : decode cX2_breakUp 115 = .ok (.invokestatic 43, 3) := by decide +kernel
theorem dX2_breakUp_118 : decode cX2_breakUp 118 = .ok (.return_, 1) := by decide +kernel
theorem okX2_breakUp : okY yX2_breakUp 3 := ⟨by decide +kernel, by decide +kernel, by decide +kernel⟩
def wpX2_breakUp_b82 (q1_width : Int32) (q1_slack : Int32) (q1_rows : Nat → Int32) (a2 : Int32) (a3 : Int32) (Post : (Nat → Int32) → (Nat → Int32) → Prop) (K30 : (Nat → Int32) → (Nat → Int32) → Int32 → Int32 → Int32 → Int32 → Int32 → Int32 → Prop) (counts_v : Nat → Int32) (taken_v : Nat → Int32) (x4 : Int32) (x5 : Int32) (x6 : Int32) (x7 : Int32) (x8 : Int32) (x9 : Int32) : Prop := wpX6_put 1440 taken_v (((x4 * (30 : Int32)) + x7) - (1 : Int32)) x8 (fun taken_5 => K30 counts_v taken_5 x4 x5 x6 x7 x8 (x9 + (1 : Int32)))
def wpX2_breakUp_b75 (q1_width : Int32) (q1_slack : Int32) (q1_rows : Nat → Int32) (a2 : Int32) (a3 : Int32) (Post : (Nat → Int32) → (Nat → Int32) → Prop) (K30 : (Nat → Int32) → (Nat → Int32) → Int32 → Int32 → Int32 → Int32 → Int32 → Int32 → Prop) (counts_v : Nat → Int32) (taken_v : Nat → Int32) (x4 : Int32) (x5 : Int32) (x6 : Int32) (x7 : Int32) (x9 : Int32) (x10 : Int32) : Prop := wpX2_breakUp_b82 q1_width q1_slack q1_rows a2 a3 Post K30 counts_v taken_v x4 x5 x6 (x7 + (1 : Int32)) x10 x9
def wpX2_breakUp_L30 (q1_width : Int32) (q1_slack : Int32) (q1_rows : Nat → Int32) (a2 : Int32) (a3 : Int32) (Post : (Nat → Int32) → (Nat → Int32) → Prop)  : Nat → (Nat → Int32) → (Nat → Int32) → Int32 → Int32 → Int32 → Int32 → Int32 → Int32 → Prop
  | 0 => fun _ _ _ _ _ _ _ _ => False
  | n30 + 1 => fun counts_v taken_v x4 x5 x6 x7 x8 x9 => (x6 ≤ x9 → wpX6_put 48 counts_v x4 x7 (fun counts_3 => Post counts_3 taken_v)) ∧ (¬ x6 ≤ x9 → wpX0_wordAt q1_rows a2 x9 (fun r_4 => (x7 ≤ 0 → wpX2_breakUp_b75 q1_width q1_slack q1_rows a2 a3 Post (wpX2_breakUp_L30 q1_width q1_slack q1_rows a2 a3 Post  n30) counts_v taken_v x4 x5 x6 x7 x9 r_4) ∧ (¬ x7 ≤ 0 → (x5 < ((x8 + (1 : Int32)) + r_4) → wpX2_breakUp_b75 q1_width q1_slack q1_rows a2 a3 Post (wpX2_breakUp_L30 q1_width q1_slack q1_rows a2 a3 Post  n30) counts_v taken_v x4 x5 x6 x7 x9 r_4) ∧ (¬ x5 < ((x8 + (1 : Int32)) + r_4) → wpX2_breakUp_b82 q1_width q1_slack q1_rows a2 a3 Post (wpX2_breakUp_L30 q1_width q1_slack q1_rows a2 a3 Post  n30) counts_v taken_v x4 x5 x6 x7 (x8 + ((1 : Int32) + r_4)) x9))))
def wpX2_breakUp (counts : Nat → Int32) (taken : Nat → Int32) (q1_width : Int32) (q1_slack : Int32) (q1_rows : Nat → Int32) (a2 : Int32) (a3 : Int32) (Post : (Nat → Int32) → (Nat → Int32) → Prop) : Prop := wpX0_lineHolds q1_width q1_slack a3 (fun r_1 => wpX0_wordsOf q1_rows a2 (fun r_2 => ∃ m_, wpX2_breakUp_L30 q1_width q1_slack q1_rows a2 a3 Post  m_ counts taken ((a2 * (3 : Int32)) + a3) r_1 r_2 (0 : Int32) (0 : Int32) (0 : Int32)))
set_option maxHeartbeats 4000000 in
set_option maxRecDepth 100000 in
theorem conX2_breakUp (l : Launch) (D : va_G) (cA : Nat → ClassId) (h_t h_p1 h_t_counts h_t_taken h_p1_rows : Nat) (u_p1_costs : Value) (counts : Nat → Int32) (taken : Nat → Int32) (q1_width : Int32) (q1_height : Int32) (q1_slack : Int32) (q1_limit : Int32) (q1_paragraphs : Int32) (q1_rows : Nat → Int32) (a2 : Int32) (a3 : Int32) (Post : (Nat → Int32) → (Nat → Int32) → Prop) (H : wpX2_breakUp counts taken q1_width q1_slack q1_rows a2 a3 Post) : Con l D cA yX2_breakUp (wm yX2_breakUp cX2_breakUp 11 none) { frames := 2, cells := 0, slots := 0, locals := 43 } [(h_t, .inr (2, [.ref h_t_counts, .ref h_t_taken])), (h_t_counts, .inl (cA 0, 48, .inl counts)), (h_t_taken, .inl (cA 0, 1440, .inl taken)), (h_p1, .inr (0, [.int q1_width, .int q1_height, .int q1_slack, .int q1_limit, .int q1_paragraphs, u_p1_costs, .ref h_p1_rows])), (h_p1_rows, .inl (cA 0, 544, .inl q1_rows))] [.ref h_t, .ref h_p1, .int a2, .int a3] 0 0 (PV (fun w1 => ∃ (counts' : Nat → Int32) (taken' : Nat → Int32), w1 = [(h_t, .inr (2, [.ref h_t_counts, .ref h_t_taken])), (h_t_counts, .inl (cA 0, 48, .inl (counts'))), (h_t_taken, .inl (cA 0, 1440, .inl (taken'))), (h_p1, .inr (0, [.int q1_width, .int q1_height, .int q1_slack, .int q1_limit, .int q1_paragraphs, u_p1_costs, .ref h_p1_rows])), (h_p1_rows, .inl (cA 0, 544, .inl q1_rows))] ∧ Post counts' taken')) := by
  refine Con.of (by decide) (Nat.le_of_ble_eq_true rfl) ?_
  intro p e s m args below meth c C hr hini
  have B82 : ∀ (K30 : (Nat → Int32) → (Nat → Int32) → Int32 → Int32 → Int32 → Int32 → Int32 → Int32 → Prop) (hK30 : ∀ (counts_v : Nat → Int32) (taken_v : Nat → Int32) (x4 : Int32) (x5 : Int32) (x6 : Int32) (x7 : Int32) (x8 : Int32) (x9 : Int32), K30 counts_v taken_v x4 x5 x6 x7 x8 x9 → Kf p l e { frames := 2, cells := 0, slots := 0, locals := 43 } s m args below meth c D (va_A [(h_t, .inr (2, [.ref h_t_counts, .ref h_t_taken])), (h_t_counts, .inl (cA 0, 48, .inl counts)), (h_t_taken, .inl (cA 0, 1440, .inl taken)), (h_p1, .inr (0, [.int q1_width, .int q1_height, .int q1_slack, .int q1_limit, .int q1_paragraphs, u_p1_costs, .ref h_p1_rows])), (h_p1_rows, .inl (cA 0, 544, .inl q1_rows))] s.heap.size) 11 0 0 (MQ below (QC D [(h_t, .inr (2, [.ref h_t_counts, .ref h_t_taken])), (h_t_counts, .inl (cA 0, 48, .inl counts)), (h_t_taken, .inl (cA 0, 1440, .inl taken)), (h_p1, .inr (0, [.int q1_width, .int q1_height, .int q1_slack, .int q1_limit, .int q1_paragraphs, u_p1_costs, .ref h_p1_rows])), (h_p1_rows, .inl (cA 0, 544, .inl q1_rows))] s.heap.size (PV (fun w1 => ∃ (counts' : Nat → Int32) (taken' : Nat → Int32), w1 = [(h_t, .inr (2, [.ref h_t_counts, .ref h_t_taken])), (h_t_counts, .inl (cA 0, 48, .inl (counts'))), (h_t_taken, .inl (cA 0, 1440, .inl (taken'))), (h_p1, .inr (0, [.int q1_width, .int q1_height, .int q1_slack, .int q1_limit, .int q1_paragraphs, u_p1_costs, .ref h_p1_rows])), (h_p1_rows, .inl (cA 0, 544, .inl q1_rows))] ∧ Post counts' taken'))) args s 0 0 (va_A [(h_t, .inr (2, [.ref h_t_counts, .ref h_t_taken])), (h_t_counts, .inl (cA 0, 48, .inl counts)), (h_t_taken, .inl (cA 0, 1440, .inl taken)), (h_p1, .inr (0, [.int q1_width, .int q1_height, .int q1_slack, .int q1_limit, .int q1_paragraphs, u_p1_costs, .ref h_p1_rows])), (h_p1_rows, .inl (cA 0, 544, .inl q1_rows))] s.heap.size)) [(h_t, .inr (2, [.ref h_t_counts, .ref h_t_taken])), (h_t_counts, .inl (cA 0, 48, .inl counts_v)), (h_t_taken, .inl (cA 0, 1440, .inl taken_v)), (h_p1, .inr (0, [.int q1_width, .int q1_height, .int q1_slack, .int q1_limit, .int q1_paragraphs, u_p1_costs, .ref h_p1_rows])), (h_p1_rows, .inl (cA 0, 544, .inl q1_rows))] 30 [(0, .ref h_t), (1, .ref h_p1), (2, .int a2), (4, .int x4), (5, .int x5), (6, .int x6), (7, .int x7), (8, .int x8), (9, .int x9)] []) (counts_v : Nat → Int32) (taken_v : Nat → Int32) (x4 : Int32) (x5 : Int32) (x6 : Int32) (x7 : Int32) (x8 : Int32) (x9 : Int32), wpX2_breakUp_b82 q1_width q1_slack q1_rows a2 a3 Post K30 counts_v taken_v x4 x5 x6 x7 x8 x9 → Kf p l e { frames := 2, cells := 0, slots := 0, locals := 43 } s m args below meth c D (va_A [(h_t, .inr (2, [.ref h_t_counts, .ref h_t_taken])), (h_t_counts, .inl (cA 0, 48, .inl counts)), (h_t_taken, .inl (cA 0, 1440, .inl taken)), (h_p1, .inr (0, [.int q1_width, .int q1_height, .int q1_slack, .int q1_limit, .int q1_paragraphs, u_p1_costs, .ref h_p1_rows])), (h_p1_rows, .inl (cA 0, 544, .inl q1_rows))] s.heap.size) 11 0 0 (MQ below (QC D [(h_t, .inr (2, [.ref h_t_counts, .ref h_t_taken])), (h_t_counts, .inl (cA 0, 48, .inl counts)), (h_t_taken, .inl (cA 0, 1440, .inl taken)), (h_p1, .inr (0, [.int q1_width, .int q1_height, .int q1_slack, .int q1_limit, .int q1_paragraphs, u_p1_costs, .ref h_p1_rows])), (h_p1_rows, .inl (cA 0, 544, .inl q1_rows))] s.heap.size (PV (fun w1 => ∃ (counts' : Nat → Int32) (taken' : Nat → Int32), w1 = [(h_t, .inr (2, [.ref h_t_counts, .ref h_t_taken])), (h_t_counts, .inl (cA 0, 48, .inl (counts'))), (h_t_taken, .inl (cA 0, 1440, .inl (taken'))), (h_p1, .inr (0, [.int q1_width, .int q1_height, .int q1_slack, .int q1_limit, .int q1_paragraphs, u_p1_costs, .ref h_p1_rows])), (h_p1_rows, .inl (cA 0, 544, .inl q1_rows))] ∧ Post counts' taken'))) args s 0 0 (va_A [(h_t, .inr (2, [.ref h_t_counts, .ref h_t_taken])), (h_t_counts, .inl (cA 0, 48, .inl counts)), (h_t_taken, .inl (cA 0, 1440, .inl taken)), (h_p1, .inr (0, [.int q1_width, .int q1_height, .int q1_slack, .int q1_limit, .int q1_paragraphs, u_p1_costs, .ref h_p1_rows])), (h_p1_rows, .inl (cA 0, 544, .inl q1_rows))] s.heap.size)) [(h_t, .inr (2, [.ref h_t_counts, .ref h_t_taken])), (h_t_counts, .inl (cA 0, 48, .inl counts_v)), (h_t_taken, .inl (cA 0, 1440, .inl taken_v)), (h_p1, .inr (0, [.int q1_width, .int q1_height, .int q1_slack, .int q1_limit, .int q1_paragraphs, u_p1_costs, .ref h_p1_rows])), (h_p1_rows, .inl (cA 0, 544, .inl q1_rows))] 82 [(0, .ref h_t), (1, .ref h_p1), (2, .int a2), (4, .int x4), (5, .int x5), (6, .int x6), (7, .int x7), (8, .int x8), (9, .int x9)] [] := by
    intro K30 hK30 counts_v taken_v x4 x5 x6 x7 x8 x9 H
    refine k_aload_n C 0 (pc := 82) dX2_breakUp_82 rfl rfl ?_
    refine k_get C (pc := 83) inW_X2 0 1 rfl rfl (Nat.lt_of_lt_of_le (Nat.lt_succ_self _) (Nat.le_of_ble_eq_true rfl)) (ref := "WidowWatch$Lines") tW_1_150 rfl rfl dX2_breakUp_83 ?_
    refine k_iload C 3 (pc := 86) dX2_breakUp_86 rfl ?_
    refine k_bipush C (pc := 88) (v := (30 : Int32)) dX2_breakUp_88 (by decide) ?_
    refine k_imul C (pc := 90) dX2_breakUp_90 ?_
    refine k_iload C 6 (pc := 91) dX2_breakUp_91 rfl ?_
    refine k_iadd C (pc := 93) dX2_breakUp_93 ?_
    refine k_iconst C (pc := 94) (v := (1 : Int32)) dX2_breakUp_94 rfl ?_
    refine k_isub C (pc := 95) dX2_breakUp_95 ?_
    refine k_iload C 7 (pc := 96) dX2_breakUp_96 rfl ?_
    refine k_callv C (pc := 98) [2] [0, 1, 3, 4] (wc := [(h_t_taken, .inl (cA 0, 1440, .inl taken_v))]) (wr := [(h_t, .inr (2, [.ref h_t_counts, .ref h_t_taken])), (h_t_counts, .inl (cA 0, 48, .inl counts_v)), (h_p1, .inr (0, [.int q1_width, .int q1_height, .int q1_slack, .int q1_limit, .int q1_paragraphs, u_p1_costs, .ref h_p1_rows])), (h_p1_rows, .inl (cA 0, 544, .inl q1_rows))]) rfl rfl rfl rfl (by decide) (k_runSN C (As := [.ref h_t_taken, .int (((x4 * (30 : Int32)) + x7) - (1 : Int32)), .int x8]) (rest := []) (conX6_put l D cA h_t_taken 1440 taken_v (((x4 * (30 : Int32)) + x7) - (1 : Int32)) x8  _ H) ⟨k_cwN C tW_2_53 (k_n11 C) tW_1_1 okX6_put rfl rfl ⟨Nat.le_of_ble_eq_true rfl, Nat.le_of_ble_eq_true rfl⟩, C.w tW_2_52, trivial⟩ rfl rfl (Nat.le_of_ble_eq_true rfl) dX2_breakUp_98 ⟨Nat.le_of_ble_eq_true rfl, Nat.le_of_ble_eq_true rfl⟩) (fun w1_ hw_ => ?_)
    obtain ⟨taken_5, rfl, H⟩ := hw_
    refine k_ws [0, 1, 4, 2, 3] (ws' := [(h_t, .inr (2, [.ref h_t_counts, .ref h_t_taken])), (h_t_counts, .inl (cA 0, 48, .inl counts_v)), (h_t_taken, .inl (cA 0, 1440, .inl taken_5)), (h_p1, .inr (0, [.int q1_width, .int q1_height, .int q1_slack, .int q1_limit, .int q1_paragraphs, u_p1_costs, .ref h_p1_rows])), (h_p1_rows, .inl (cA 0, 544, .inl q1_rows))]) rfl rfl ?_
    refine k_iinc C (pc := 101) (k := 8) (v := x9 + (1 : Int32)) dX2_breakUp_101 rfl rfl (Nat.lt_of_lt_of_le (Nat.lt_succ_self _) (Nat.le_of_ble_eq_true rfl)) (lv' := [(9, .int (x9 + (1 : Int32))), (0, .ref h_t), (1, .ref h_p1), (2, .int a2), (4, .int x4), (5, .int x5), (6, .int x6), (7, .int x7), (8, .int x8)]) rfl ?_
    refine k_goto C (pc := 104) (tgt := 30) dX2_breakUp_104 (by decide) ?_
    refine k_lv (pc := 30) [1, 2, 3, 4, 5, 6, 7, 8, 0] (lv' := [(0, .ref h_t), (1, .ref h_p1), (2, .int a2), (4, .int x4), (5, .int x5), (6, .int x6), (7, .int x7), (8, .int x8), (9, .int (x9 + (1 : Int32)))]) rfl ?_
    exact hK30 counts_v taken_5 x4 x5 x6 x7 x8 (x9 + (1 : Int32)) H
  have B75 : ∀ (K30 : (Nat → Int32) → (Nat → Int32) → Int32 → Int32 → Int32 → Int32 → Int32 → Int32 → Prop) (hK30 : ∀ (counts_v : Nat → Int32) (taken_v : Nat → Int32) (x4 : Int32) (x5 : Int32) (x6 : Int32) (x7 : Int32) (x8 : Int32) (x9 : Int32), K30 counts_v taken_v x4 x5 x6 x7 x8 x9 → Kf p l e { frames := 2, cells := 0, slots := 0, locals := 43 } s m args below meth c D (va_A [(h_t, .inr (2, [.ref h_t_counts, .ref h_t_taken])), (h_t_counts, .inl (cA 0, 48, .inl counts)), (h_t_taken, .inl (cA 0, 1440, .inl taken)), (h_p1, .inr (0, [.int q1_width, .int q1_height, .int q1_slack, .int q1_limit, .int q1_paragraphs, u_p1_costs, .ref h_p1_rows])), (h_p1_rows, .inl (cA 0, 544, .inl q1_rows))] s.heap.size) 11 0 0 (MQ below (QC D [(h_t, .inr (2, [.ref h_t_counts, .ref h_t_taken])), (h_t_counts, .inl (cA 0, 48, .inl counts)), (h_t_taken, .inl (cA 0, 1440, .inl taken)), (h_p1, .inr (0, [.int q1_width, .int q1_height, .int q1_slack, .int q1_limit, .int q1_paragraphs, u_p1_costs, .ref h_p1_rows])), (h_p1_rows, .inl (cA 0, 544, .inl q1_rows))] s.heap.size (PV (fun w1 => ∃ (counts' : Nat → Int32) (taken' : Nat → Int32), w1 = [(h_t, .inr (2, [.ref h_t_counts, .ref h_t_taken])), (h_t_counts, .inl (cA 0, 48, .inl (counts'))), (h_t_taken, .inl (cA 0, 1440, .inl (taken'))), (h_p1, .inr (0, [.int q1_width, .int q1_height, .int q1_slack, .int q1_limit, .int q1_paragraphs, u_p1_costs, .ref h_p1_rows])), (h_p1_rows, .inl (cA 0, 544, .inl q1_rows))] ∧ Post counts' taken'))) args s 0 0 (va_A [(h_t, .inr (2, [.ref h_t_counts, .ref h_t_taken])), (h_t_counts, .inl (cA 0, 48, .inl counts)), (h_t_taken, .inl (cA 0, 1440, .inl taken)), (h_p1, .inr (0, [.int q1_width, .int q1_height, .int q1_slack, .int q1_limit, .int q1_paragraphs, u_p1_costs, .ref h_p1_rows])), (h_p1_rows, .inl (cA 0, 544, .inl q1_rows))] s.heap.size)) [(h_t, .inr (2, [.ref h_t_counts, .ref h_t_taken])), (h_t_counts, .inl (cA 0, 48, .inl counts_v)), (h_t_taken, .inl (cA 0, 1440, .inl taken_v)), (h_p1, .inr (0, [.int q1_width, .int q1_height, .int q1_slack, .int q1_limit, .int q1_paragraphs, u_p1_costs, .ref h_p1_rows])), (h_p1_rows, .inl (cA 0, 544, .inl q1_rows))] 30 [(0, .ref h_t), (1, .ref h_p1), (2, .int a2), (4, .int x4), (5, .int x5), (6, .int x6), (7, .int x7), (8, .int x8), (9, .int x9)] []) (counts_v : Nat → Int32) (taken_v : Nat → Int32) (x4 : Int32) (x5 : Int32) (x6 : Int32) (x7 : Int32) (x9 : Int32) (x10 : Int32), wpX2_breakUp_b75 q1_width q1_slack q1_rows a2 a3 Post K30 counts_v taken_v x4 x5 x6 x7 x9 x10 → Kf p l e { frames := 2, cells := 0, slots := 0, locals := 43 } s m args below meth c D (va_A [(h_t, .inr (2, [.ref h_t_counts, .ref h_t_taken])), (h_t_counts, .inl (cA 0, 48, .inl counts)), (h_t_taken, .inl (cA 0, 1440, .inl taken)), (h_p1, .inr (0, [.int q1_width, .int q1_height, .int q1_slack, .int q1_limit, .int q1_paragraphs, u_p1_costs, .ref h_p1_rows])), (h_p1_rows, .inl (cA 0, 544, .inl q1_rows))] s.heap.size) 11 0 0 (MQ below (QC D [(h_t, .inr (2, [.ref h_t_counts, .ref h_t_taken])), (h_t_counts, .inl (cA 0, 48, .inl counts)), (h_t_taken, .inl (cA 0, 1440, .inl taken)), (h_p1, .inr (0, [.int q1_width, .int q1_height, .int q1_slack, .int q1_limit, .int q1_paragraphs, u_p1_costs, .ref h_p1_rows])), (h_p1_rows, .inl (cA 0, 544, .inl q1_rows))] s.heap.size (PV (fun w1 => ∃ (counts' : Nat → Int32) (taken' : Nat → Int32), w1 = [(h_t, .inr (2, [.ref h_t_counts, .ref h_t_taken])), (h_t_counts, .inl (cA 0, 48, .inl (counts'))), (h_t_taken, .inl (cA 0, 1440, .inl (taken'))), (h_p1, .inr (0, [.int q1_width, .int q1_height, .int q1_slack, .int q1_limit, .int q1_paragraphs, u_p1_costs, .ref h_p1_rows])), (h_p1_rows, .inl (cA 0, 544, .inl q1_rows))] ∧ Post counts' taken'))) args s 0 0 (va_A [(h_t, .inr (2, [.ref h_t_counts, .ref h_t_taken])), (h_t_counts, .inl (cA 0, 48, .inl counts)), (h_t_taken, .inl (cA 0, 1440, .inl taken)), (h_p1, .inr (0, [.int q1_width, .int q1_height, .int q1_slack, .int q1_limit, .int q1_paragraphs, u_p1_costs, .ref h_p1_rows])), (h_p1_rows, .inl (cA 0, 544, .inl q1_rows))] s.heap.size)) [(h_t, .inr (2, [.ref h_t_counts, .ref h_t_taken])), (h_t_counts, .inl (cA 0, 48, .inl counts_v)), (h_t_taken, .inl (cA 0, 1440, .inl taken_v)), (h_p1, .inr (0, [.int q1_width, .int q1_height, .int q1_slack, .int q1_limit, .int q1_paragraphs, u_p1_costs, .ref h_p1_rows])), (h_p1_rows, .inl (cA 0, 544, .inl q1_rows))] 75 [(0, .ref h_t), (1, .ref h_p1), (2, .int a2), (4, .int x4), (5, .int x5), (6, .int x6), (7, .int x7), (9, .int x9), (10, .int x10)] [] := by
    intro K30 hK30 counts_v taken_v x4 x5 x6 x7 x9 x10 H
    refine k_iinc C (pc := 75) (k := 6) (v := x7 + (1 : Int32)) dX2_breakUp_75 rfl rfl (Nat.lt_of_lt_of_le (Nat.lt_succ_self _) (Nat.le_of_ble_eq_true rfl)) (lv' := [(7, .int (x7 + (1 : Int32))), (0, .ref h_t), (1, .ref h_p1), (2, .int a2), (4, .int x4), (5, .int x5), (6, .int x6), (9, .int x9), (10, .int x10)]) rfl ?_
    refine k_iload C 8 (pc := 78) dX2_breakUp_78 rfl ?_
    refine k_istore C (pc := 80) dX2_breakUp_80 (Nat.lt_of_lt_of_le (Nat.lt_succ_self _) (Nat.le_of_ble_eq_true rfl)) (lv' := [(8, .int x10), (7, .int (x7 + (1 : Int32))), (0, .ref h_t), (1, .ref h_p1), (2, .int a2), (4, .int x4), (5, .int x5), (6, .int x6), (9, .int x9), (10, .int x10)]) rfl ?_
    refine k_lv (pc := 82) [2, 3, 4, 5, 6, 7, 1, 0, 8] (lv' := [(0, .ref h_t), (1, .ref h_p1), (2, .int a2), (4, .int x4), (5, .int x5), (6, .int x6), (7, .int (x7 + (1 : Int32))), (8, .int x10), (9, .int x9)]) rfl ?_
    exact B82 K30 hK30 counts_v taken_v x4 x5 x6 (x7 + (1 : Int32)) x10 x9 H
  have B30 : ∀  (n : Nat) (counts_v : Nat → Int32) (taken_v : Nat → Int32) (x4 : Int32) (x5 : Int32) (x6 : Int32) (x7 : Int32) (x8 : Int32) (x9 : Int32), wpX2_breakUp_L30 q1_width q1_slack q1_rows a2 a3 Post  n counts_v taken_v x4 x5 x6 x7 x8 x9 → Kf p l e { frames := 2, cells := 0, slots := 0, locals := 43 } s m args below meth c D (va_A [(h_t, .inr (2, [.ref h_t_counts, .ref h_t_taken])), (h_t_counts, .inl (cA 0, 48, .inl counts)), (h_t_taken, .inl (cA 0, 1440, .inl taken)), (h_p1, .inr (0, [.int q1_width, .int q1_height, .int q1_slack, .int q1_limit, .int q1_paragraphs, u_p1_costs, .ref h_p1_rows])), (h_p1_rows, .inl (cA 0, 544, .inl q1_rows))] s.heap.size) 11 0 0 (MQ below (QC D [(h_t, .inr (2, [.ref h_t_counts, .ref h_t_taken])), (h_t_counts, .inl (cA 0, 48, .inl counts)), (h_t_taken, .inl (cA 0, 1440, .inl taken)), (h_p1, .inr (0, [.int q1_width, .int q1_height, .int q1_slack, .int q1_limit, .int q1_paragraphs, u_p1_costs, .ref h_p1_rows])), (h_p1_rows, .inl (cA 0, 544, .inl q1_rows))] s.heap.size (PV (fun w1 => ∃ (counts' : Nat → Int32) (taken' : Nat → Int32), w1 = [(h_t, .inr (2, [.ref h_t_counts, .ref h_t_taken])), (h_t_counts, .inl (cA 0, 48, .inl (counts'))), (h_t_taken, .inl (cA 0, 1440, .inl (taken'))), (h_p1, .inr (0, [.int q1_width, .int q1_height, .int q1_slack, .int q1_limit, .int q1_paragraphs, u_p1_costs, .ref h_p1_rows])), (h_p1_rows, .inl (cA 0, 544, .inl q1_rows))] ∧ Post counts' taken'))) args s 0 0 (va_A [(h_t, .inr (2, [.ref h_t_counts, .ref h_t_taken])), (h_t_counts, .inl (cA 0, 48, .inl counts)), (h_t_taken, .inl (cA 0, 1440, .inl taken)), (h_p1, .inr (0, [.int q1_width, .int q1_height, .int q1_slack, .int q1_limit, .int q1_paragraphs, u_p1_costs, .ref h_p1_rows])), (h_p1_rows, .inl (cA 0, 544, .inl q1_rows))] s.heap.size)) [(h_t, .inr (2, [.ref h_t_counts, .ref h_t_taken])), (h_t_counts, .inl (cA 0, 48, .inl counts_v)), (h_t_taken, .inl (cA 0, 1440, .inl taken_v)), (h_p1, .inr (0, [.int q1_width, .int q1_height, .int q1_slack, .int q1_limit, .int q1_paragraphs, u_p1_costs, .ref h_p1_rows])), (h_p1_rows, .inl (cA 0, 544, .inl q1_rows))] 30 [(0, .ref h_t), (1, .ref h_p1), (2, .int a2), (4, .int x4), (5, .int x5), (6, .int x6), (7, .int x7), (8, .int x8), (9, .int x9)] [] := by
    intro  n
    induction n with
    | zero =>
      intro counts_v taken_v x4 x5 x6 x7 x8 x9 H
      exact H.elim
    | succ n30 ih30 =>
      intro counts_v taken_v x4 x5 x6 x7 x8 x9 H
      refine k_iload C 8 (pc := 30) dX2_breakUp_30 rfl ?_
      refine k_iload C 5 (pc := 32) dX2_breakUp_32 rfl ?_
      refine k_icmp_ge C (pc := 34) (tgt := 107) dX2_breakUp_34 (by decide) (fun c_34 => ?_) (fun c_34 => ?_)
      · have H := H.1 c_34
        refine k_aload_n C 0 (pc := 107) dX2_breakUp_107 rfl rfl ?_
        refine k_get C (pc := 108) inW_X2 0 0 rfl rfl (Nat.lt_of_lt_of_le (Nat.lt_succ_self _) (Nat.le_of_ble_eq_true rfl)) (ref := "WidowWatch$Lines") tW_1_149 rfl rfl dX2_breakUp_108 ?_
        refine k_iload C 3 (pc := 111) dX2_breakUp_111 rfl ?_
        refine k_iload C 6 (pc := 113) dX2_breakUp_113 rfl ?_
        refine k_callv C (pc := 115) [1] [0, 2, 3, 4] (wc := [(h_t_counts, .inl (cA 0, 48, .inl counts_v))]) (wr := [(h_t, .inr (2, [.ref h_t_counts, .ref h_t_taken])), (h_t_taken, .inl (cA 0, 1440, .inl taken_v)), (h_p1, .inr (0, [.int q1_width, .int q1_height, .int q1_slack, .int q1_limit, .int q1_paragraphs, u_p1_costs, .ref h_p1_rows])), (h_p1_rows, .inl (cA 0, 544, .inl q1_rows))]) rfl rfl rfl rfl (by decide) (k_runSN C (As := [.ref h_t_counts, .int x4, .int x7]) (rest := []) (conX6_put l D cA h_t_counts 48 counts_v x4 x7  _ H) ⟨k_cwN C tW_2_53 (k_n11 C) tW_1_1 okX6_put rfl rfl ⟨Nat.le_of_ble_eq_true rfl, Nat.le_of_ble_eq_true rfl⟩, C.w tW_2_52, trivial⟩ rfl rfl (Nat.le_of_ble_eq_true rfl) dX2_breakUp_115 ⟨Nat.le_of_ble_eq_true rfl, Nat.le_of_ble_eq_true rfl⟩) (fun w1_ hw_ => ?_)
        obtain ⟨counts_3, rfl, H⟩ := hw_
        refine k_ws [0, 4, 1, 2, 3] (ws' := [(h_t, .inr (2, [.ref h_t_counts, .ref h_t_taken])), (h_t_counts, .inl (cA 0, 48, .inl counts_3)), (h_t_taken, .inl (cA 0, 1440, .inl taken_v)), (h_p1, .inr (0, [.int q1_width, .int q1_height, .int q1_slack, .int q1_limit, .int q1_paragraphs, u_p1_costs, .ref h_p1_rows])), (h_p1_rows, .inl (cA 0, 544, .inl q1_rows))]) rfl rfl ?_
        exact k_vret C (pc := 118) hr dX2_breakUp_118 ⟨_, _, rfl, H⟩
      · have H := H.2 c_34
        refine k_aload_n C 1 (pc := 37) dX2_breakUp_37 rfl rfl ?_
        refine k_iload_n C 2 (pc := 38) dX2_breakUp_38 rfl rfl ?_
        refine k_iload C 8 (pc := 39) dX2_breakUp_39 rfl ?_
        refine k_calli C (pc := 41) [3, 4] [0, 1, 2] (wc := [(h_p1, .inr (0, [.int q1_width, .int q1_height, .int q1_slack, .int q1_limit, .int q1_paragraphs, u_p1_costs, .ref h_p1_rows])), (h_p1_rows, .inl (cA 0, 544, .inl q1_rows))]) (wr := [(h_t, .inr (2, [.ref h_t_counts, .ref h_t_taken])), (h_t_counts, .inl (cA 0, 48, .inl counts_v)), (h_t_taken, .inl (cA 0, 1440, .inl taken_v))]) rfl rfl rfl rfl (by decide) (k_runV C (As := [.int a2, .int x9]) (rest := []) (ci := 0) (q0 := 0) (conX0_wordAt l D cA h_p1 h_p1_rows u_p1_costs q1_width q1_height q1_slack q1_limit q1_paragraphs q1_rows a2 x9  _ H) ⟨k_cwB C tW_2_50 tW_2_47 tW_1_2 okX0_wordAt rfl rfl ⟨Nat.le_of_ble_eq_true rfl, Nat.le_of_ble_eq_true rfl⟩, C.w tW_2_48, C.w tW_2_49⟩ rfl rfl rfl rfl rfl (Nat.le_of_ble_eq_true rfl) dX2_breakUp_41 ⟨Nat.le_of_ble_eq_true rfl, Nat.le_of_ble_eq_true rfl⟩) (fun r_4 w1_ hw_ => ?_)
        obtain ⟨rfl, H⟩ := hw_
        refine k_ws [0, 1, 2, 3, 4] (ws' := [(h_t, .inr (2, [.ref h_t_counts, .ref h_t_taken])), (h_t_counts, .inl (cA 0, 48, .inl counts_v)), (h_t_taken, .inl (cA 0, 1440, .inl taken_v)), (h_p1, .inr (0, [.int q1_width, .int q1_height, .int q1_slack, .int q1_limit, .int q1_paragraphs, u_p1_costs, .ref h_p1_rows])), (h_p1_rows, .inl (cA 0, 544, .inl q1_rows))]) rfl rfl ?_
        refine k_istore C (pc := 44) dX2_breakUp_44 (Nat.lt_of_lt_of_le (Nat.lt_succ_self _) (Nat.le_of_ble_eq_true rfl)) (lv' := [(10, .int r_4), (0, .ref h_t), (1, .ref h_p1), (2, .int a2), (4, .int x4), (5, .int x5), (6, .int x6), (7, .int x7), (8, .int x8), (9, .int x9)]) rfl ?_
        refine k_iload C 7 (pc := 46) dX2_breakUp_46 rfl ?_
        refine k_if_le C (pc := 48) (tgt := 75) dX2_breakUp_48 (by decide) (fun c_48 => ?_) (fun c_48 => ?_)
        · have H := H.1 c_48
          refine k_lv (pc := 75) [1, 2, 3, 4, 5, 6, 7, 9, 0] (lv' := [(0, .ref h_t), (1, .ref h_p1), (2, .int a2), (4, .int x4), (5, .int x5), (6, .int x6), (7, .int x7), (9, .int x9), (10, .int r_4)]) rfl ?_
          exact B75 (wpX2_breakUp_L30 q1_width q1_slack q1_rows a2 a3 Post  n30) ih30 counts_v taken_v x4 x5 x6 x7 x9 r_4 H
        · have H := H.2 c_48
          refine k_iload C 8 (pc := 51) dX2_breakUp_51 rfl ?_
          refine k_iconst C (pc := 53) (v := (1 : Int32)) dX2_breakUp_53 rfl ?_
          refine k_iadd C (pc := 54) dX2_breakUp_54 ?_
          refine k_iload C 0 (pc := 55) dX2_breakUp_55 rfl ?_
          refine k_iadd C (pc := 57) dX2_breakUp_57 ?_
          refine k_iload C 5 (pc := 58) dX2_breakUp_58 rfl ?_
          refine k_icmp_gt C (pc := 60) (tgt := 75) dX2_breakUp_60 (by decide) (fun c_60 => ?_) (fun c_60 => ?_)
          · have H := H.1 c_60
            refine k_lv (pc := 75) [1, 2, 3, 4, 5, 6, 7, 9, 0] (lv' := [(0, .ref h_t), (1, .ref h_p1), (2, .int a2), (4, .int x4), (5, .int x5), (6, .int x6), (7, .int x7), (9, .int x9), (10, .int r_4)]) rfl ?_
            exact B75 (wpX2_breakUp_L30 q1_width q1_slack q1_rows a2 a3 Post  n30) ih30 counts_v taken_v x4 x5 x6 x7 x9 r_4 H
          · have H := H.2 c_60
            refine k_iload C 8 (pc := 63) dX2_breakUp_63 rfl ?_
            refine k_iconst C (pc := 65) (v := (1 : Int32)) dX2_breakUp_65 rfl ?_
            refine k_iload C 0 (pc := 66) dX2_breakUp_66 rfl ?_
            refine k_iadd C (pc := 68) dX2_breakUp_68 ?_
            refine k_iadd C (pc := 69) dX2_breakUp_69 ?_
            refine k_istore C (pc := 70) dX2_breakUp_70 (Nat.lt_of_lt_of_le (Nat.lt_succ_self _) (Nat.le_of_ble_eq_true rfl)) (lv' := [(8, .int (x8 + ((1 : Int32) + r_4))), (10, .int r_4), (0, .ref h_t), (1, .ref h_p1), (2, .int a2), (4, .int x4), (5, .int x5), (6, .int x6), (7, .int x7), (9, .int x9)]) rfl ?_
            refine k_goto C (pc := 72) (tgt := 82) dX2_breakUp_72 (by decide) ?_
            refine k_lv (pc := 82) [2, 3, 4, 5, 6, 7, 8, 0, 9] (lv' := [(0, .ref h_t), (1, .ref h_p1), (2, .int a2), (4, .int x4), (5, .int x5), (6, .int x6), (7, .int x7), (8, .int (x8 + ((1 : Int32) + r_4))), (9, .int x9)]) rfl ?_
            exact B82 (wpX2_breakUp_L30 q1_width q1_slack q1_rows a2 a3 Post  n30) ih30 counts_v taken_v x4 x5 x6 x7 (x8 + ((1 : Int32) + r_4)) x9 H
  refine k_eq (ws' := [(h_t, .inr (2, [.ref h_t_counts, .ref h_t_taken])), (h_t_counts, .inl (cA 0, 48, .inl counts)), (h_t_taken, .inl (cA 0, 1440, .inl taken)), (h_p1, .inr (0, [.int q1_width, .int q1_height, .int q1_slack, .int q1_limit, .int q1_paragraphs, u_p1_costs, .ref h_p1_rows])), (h_p1_rows, .inl (cA 0, 544, .inl q1_rows))]) (lv' := [(0, .ref h_t), (1, .ref h_p1), (2, .int a2), (3, .int a3)]) (st' := []) rfl rfl rfl ?_
  refine k_iload_n C 2 (pc := 0) dX2_breakUp_0 rfl rfl ?_
  refine k_iconst C (pc := 1) (v := (3 : Int32)) dX2_breakUp_1 rfl ?_
  refine k_imul C (pc := 2) dX2_breakUp_2 ?_
  refine k_iload_n C 3 (pc := 3) dX2_breakUp_3 rfl rfl ?_
  refine k_iadd C (pc := 4) dX2_breakUp_4 ?_
  refine k_istore C (pc := 5) dX2_breakUp_5 (Nat.lt_of_lt_of_le (Nat.lt_succ_self _) (Nat.le_of_ble_eq_true rfl)) (lv' := [(4, .int ((a2 * (3 : Int32)) + a3)), (0, .ref h_t), (1, .ref h_p1), (2, .int a2), (3, .int a3)]) rfl ?_
  refine k_aload_n C 2 (pc := 7) dX2_breakUp_7 rfl rfl ?_
  refine k_iload_n C 4 (pc := 8) dX2_breakUp_8 rfl rfl ?_
  refine k_calli C (pc := 9) [3] [0, 1, 2, 4] (wc := [(h_p1, .inr (0, [.int q1_width, .int q1_height, .int q1_slack, .int q1_limit, .int q1_paragraphs, u_p1_costs, .ref h_p1_rows]))]) (wr := [(h_t, .inr (2, [.ref h_t_counts, .ref h_t_taken])), (h_t_counts, .inl (cA 0, 48, .inl counts)), (h_t_taken, .inl (cA 0, 1440, .inl taken)), (h_p1_rows, .inl (cA 0, 544, .inl q1_rows))]) rfl rfl rfl rfl (by decide) (k_runV C (As := [.int a3]) (rest := []) (ci := 0) (q0 := 0) (conX0_lineHolds l D cA h_p1 u_p1_costs (.ref h_p1_rows) q1_width q1_height q1_slack q1_limit q1_paragraphs a3  _ H) ⟨k_cwB C tW_2_39 tW_2_36 tW_1_2 okX0_lineHolds rfl rfl ⟨Nat.le_of_ble_eq_true rfl, Nat.le_of_ble_eq_true rfl⟩, C.w tW_2_37, C.w tW_2_38⟩ rfl rfl rfl rfl rfl (Nat.le_of_ble_eq_true rfl) dX2_breakUp_9 ⟨Nat.le_of_ble_eq_true rfl, Nat.le_of_ble_eq_true rfl⟩) (fun r_1 w1_ hw_ => ?_)
  obtain ⟨rfl, H⟩ := hw_
  refine k_ws [0, 1, 2, 4, 3] (ws' := [(h_t, .inr (2, [.ref h_t_counts, .ref h_t_taken])), (h_t_counts, .inl (cA 0, 48, .inl counts)), (h_t_taken, .inl (cA 0, 1440, .inl taken)), (h_p1, .inr (0, [.int q1_width, .int q1_height, .int q1_slack, .int q1_limit, .int q1_paragraphs, u_p1_costs, .ref h_p1_rows])), (h_p1_rows, .inl (cA 0, 544, .inl q1_rows))]) rfl rfl ?_
  refine k_istore C (pc := 12) dX2_breakUp_12 (Nat.lt_of_lt_of_le (Nat.lt_succ_self _) (Nat.le_of_ble_eq_true rfl)) (lv' := [(5, .int r_1), (4, .int ((a2 * (3 : Int32)) + a3)), (0, .ref h_t), (1, .ref h_p1), (2, .int a2), (3, .int a3)]) rfl ?_
  refine k_aload_n C 3 (pc := 14) dX2_breakUp_14 rfl rfl ?_
  refine k_iload_n C 4 (pc := 15) dX2_breakUp_15 rfl rfl ?_
  refine k_calli C (pc := 16) [3, 4] [0, 1, 2] (wc := [(h_p1, .inr (0, [.int q1_width, .int q1_height, .int q1_slack, .int q1_limit, .int q1_paragraphs, u_p1_costs, .ref h_p1_rows])), (h_p1_rows, .inl (cA 0, 544, .inl q1_rows))]) (wr := [(h_t, .inr (2, [.ref h_t_counts, .ref h_t_taken])), (h_t_counts, .inl (cA 0, 48, .inl counts)), (h_t_taken, .inl (cA 0, 1440, .inl taken))]) rfl rfl rfl rfl (by decide) (k_runV C (As := [.int a2]) (rest := []) (ci := 0) (q0 := 0) (conX0_wordsOf l D cA h_p1 h_p1_rows u_p1_costs q1_width q1_height q1_slack q1_limit q1_paragraphs q1_rows a2  _ H) ⟨k_cwB C tW_2_43 tW_2_40 tW_1_2 okX0_wordsOf rfl rfl ⟨Nat.le_of_ble_eq_true rfl, Nat.le_of_ble_eq_true rfl⟩, C.w tW_2_41, C.w tW_2_42⟩ rfl rfl rfl rfl rfl (Nat.le_of_ble_eq_true rfl) dX2_breakUp_16 ⟨Nat.le_of_ble_eq_true rfl, Nat.le_of_ble_eq_true rfl⟩) (fun r_2 w1_ hw_ => ?_)
  obtain ⟨rfl, H⟩ := hw_
  refine k_ws [0, 1, 2, 3, 4] (ws' := [(h_t, .inr (2, [.ref h_t_counts, .ref h_t_taken])), (h_t_counts, .inl (cA 0, 48, .inl counts)), (h_t_taken, .inl (cA 0, 1440, .inl taken)), (h_p1, .inr (0, [.int q1_width, .int q1_height, .int q1_slack, .int q1_limit, .int q1_paragraphs, u_p1_costs, .ref h_p1_rows])), (h_p1_rows, .inl (cA 0, 544, .inl q1_rows))]) rfl rfl ?_
  refine k_istore C (pc := 19) dX2_breakUp_19 (Nat.lt_of_lt_of_le (Nat.lt_succ_self _) (Nat.le_of_ble_eq_true rfl)) (lv' := [(6, .int r_2), (5, .int r_1), (4, .int ((a2 * (3 : Int32)) + a3)), (0, .ref h_t), (1, .ref h_p1), (2, .int a2), (3, .int a3)]) rfl ?_
  refine k_iconst C (pc := 21) (v := (0 : Int32)) dX2_breakUp_21 rfl ?_
  refine k_istore C (pc := 22) dX2_breakUp_22 (Nat.lt_of_lt_of_le (Nat.lt_succ_self _) (Nat.le_of_ble_eq_true rfl)) (lv' := [(7, .int (0 : Int32)), (6, .int r_2), (5, .int r_1), (4, .int ((a2 * (3 : Int32)) + a3)), (0, .ref h_t), (1, .ref h_p1), (2, .int a2), (3, .int a3)]) rfl ?_
  refine k_iconst C (pc := 24) (v := (0 : Int32)) dX2_breakUp_24 rfl ?_
  refine k_istore C (pc := 25) dX2_breakUp_25 (Nat.lt_of_lt_of_le (Nat.lt_succ_self _) (Nat.le_of_ble_eq_true rfl)) (lv' := [(8, .int (0 : Int32)), (7, .int (0 : Int32)), (6, .int r_2), (5, .int r_1), (4, .int ((a2 * (3 : Int32)) + a3)), (0, .ref h_t), (1, .ref h_p1), (2, .int a2), (3, .int a3)]) rfl ?_
  refine k_iconst C (pc := 27) (v := (0 : Int32)) dX2_breakUp_27 rfl ?_
  refine k_istore C (pc := 28) dX2_breakUp_28 (Nat.lt_of_lt_of_le (Nat.lt_succ_self _) (Nat.le_of_ble_eq_true rfl)) (lv' := [(9, .int (0 : Int32)), (8, .int (0 : Int32)), (7, .int (0 : Int32)), (6, .int r_2), (5, .int r_1), (4, .int ((a2 * (3 : Int32)) + a3)), (0, .ref h_t), (1, .ref h_p1), (2, .int a2), (3, .int a3)]) rfl ?_
  obtain ⟨n_, H⟩ := H
  refine k_lv (pc := 30) [6, 7, 8, 5, 4, 3, 2, 1, 0] (lv' := [(0, .ref h_t), (1, .ref h_p1), (2, .int a2), (4, .int ((a2 * (3 : Int32)) + a3)), (5, .int r_1), (6, .int r_2), (7, .int (0 : Int32)), (8, .int (0 : Int32)), (9, .int (0 : Int32))]) rfl ?_
  exact B30  n_ counts taken ((a2 * (3 : Int32)) + a3) r_1 r_2 (0 : Int32) (0 : Int32) (0 : Int32) H
/-! WidowWatch$Lines.breakAll(LWidowWatch$Book;)V -/
theorem dX2_breakAll_0 : decode cX2_breakAll 0 = .ok (.iconst 0, 1) := by decide +kernel
theorem dX2_breakAll_1 : decode cX2_breakAll 1 = .ok (.istore_n 2, 1) := by decide +kernel
theorem dX2_breakAll_2 : decode cX2_breakAll 2 = .ok (.iload_n 2, 1) := by decide +kernel
theorem dX2_breakAll_3 : decode cX2_breakAll 3 = .ok (.aload_n 1, 1) := by decide +kernel
theorem dX2_breakAll_4 : decode cX2_breakAll 4 = .ok (.getfield 22, 3) := by decide +kernel
theorem dX2_breakAll_7 : decode cX2_breakAll 7 = .ok (.if_icmp .ge 29, 3) := by decide +kernel
theorem dX2_breakAll_10 : decode cX2_breakAll 10 = .ok (.iconst 0, 1) := by decide +kernel
theorem dX2_breakAll_11 : decode cX2_breakAll 11 = .ok (.istore_n 3, 1) := by decide +kernel
theorem dX2_breakAll_12 : decode cX2_breakAll 12 = .ok (.iload_n 3, 1) := by decide +kernel
theorem dX2_breakAll_13 : decode cX2_breakAll 13 = .ok (.iconst 2, 1) := by decide +kernel
theorem dX2_breakAll_14 : decode cX2_breakAll 14 = .ok (.if_icmp .gt 16, 3) := by decide +kernel
theorem dX2_breakAll_17 : decode cX2_breakAll 17 = .ok (.aload_n 0, 1) := by decide +kernel
theorem dX2_breakAll_18 : decode cX2_breakAll 18 = .ok (.aload_n 1, 1) := by decide +kernel
theorem dX2_breakAll_19 : decode cX2_breakAll 19 = .ok (.iload_n 2, 1) := by decide +kernel
theorem dX2_breakAll_20 : decode cX2_breakAll 20 = .ok (.iload_n 3, 1) := by decide +kernel
theorem dX2_breakAll_21 : decode cX2_breakAll 21 = .ok (.invokevirtual 28, 3) := by decide +kernel
theorem dX2_breakAll_24 : decode cX2_breakAll 24 = .ok (.iinc 3 1, 3) := by decide +kernel
theorem dX2_breakAll_27 : decode cX2_breakAll 27 = .ok (.goto (-15), 3) := by decide +kernel
theorem dX2_breakAll_30 : decode cX2_breakAll 30 = .ok (.iinc 2 1, 3) := by decide +kernel
theorem dX2_breakAll_33 : decode cX2_breakAll 33 = .ok (.goto (-31), 3) := by decide +kernel
theorem dX2_breakAll_36 : decode cX2_breakAll 36 = .ok (.return_, 1) := by decide +kernel
theorem okX2_breakAll : okY yX2_breakAll 1 := ⟨by decide +kernel, by decide +kernel, by decide +kernel⟩
def wpX2_breakAll_L12 (q1_width : Int32) (q1_slack : Int32) (q1_paragraphs : Int32) (q1_rows : Nat → Int32) (Post : (Nat → Int32) → (Nat → Int32) → Prop) (K2 : (Nat → Int32) → (Nat → Int32) → Int32 → Prop) : Nat → (Nat → Int32) → (Nat → Int32) → Int32 → Int32 → Prop
  | 0 => fun _ _ _ _ => False
  | n12 + 1 => fun counts_v taken_v x2 x3 => ((2 : Int32) < x3 → K2 counts_v taken_v (x2 + (1 : Int32))) ∧ (¬ (2 : Int32) < x3 → wpX2_breakUp counts_v taken_v q1_width q1_slack q1_rows x2 x3 (fun counts_1 taken_1 => (wpX2_breakAll_L12 q1_width q1_slack q1_paragraphs q1_rows Post K2 n12) counts_1 taken_1 x2 (x3 + (1 : Int32))))
def wpX2_breakAll_L2 (q1_width : Int32) (q1_slack : Int32) (q1_paragraphs : Int32) (q1_rows : Nat → Int32) (Post : (Nat → Int32) → (Nat → Int32) → Prop)  : Nat → (Nat → Int32) → (Nat → Int32) → Int32 → Prop
  | 0 => fun _ _ _ => False
  | n2 + 1 => fun counts_v taken_v x2 => (q1_paragraphs ≤ x2 → Post counts_v taken_v) ∧ (¬ q1_paragraphs ≤ x2 → ∃ m_, wpX2_breakAll_L12 q1_width q1_slack q1_paragraphs q1_rows Post (wpX2_breakAll_L2 q1_width q1_slack q1_paragraphs q1_rows Post  n2) m_ counts_v taken_v x2 (0 : Int32))
def wpX2_breakAll (counts : Nat → Int32) (taken : Nat → Int32) (q1_width : Int32) (q1_slack : Int32) (q1_paragraphs : Int32) (q1_rows : Nat → Int32) (Post : (Nat → Int32) → (Nat → Int32) → Prop) : Prop := ∃ m_, wpX2_breakAll_L2 q1_width q1_slack q1_paragraphs q1_rows Post  m_ counts taken (0 : Int32)
set_option maxHeartbeats 4000000 in
set_option maxRecDepth 100000 in
theorem conX2_breakAll (l : Launch) (D : va_G) (cA : Nat → ClassId) (h_t h_p1 h_t_counts h_t_taken h_p1_rows : Nat) (u_p1_costs : Value) (counts : Nat → Int32) (taken : Nat → Int32) (q1_width : Int32) (q1_height : Int32) (q1_slack : Int32) (q1_limit : Int32) (q1_paragraphs : Int32) (q1_rows : Nat → Int32) (Post : (Nat → Int32) → (Nat → Int32) → Prop) (H : wpX2_breakAll counts taken q1_width q1_slack q1_paragraphs q1_rows Post) : Con l D cA yX2_breakAll (wm yX2_breakAll cX2_breakAll 4 none) { frames := 3, cells := 0, slots := 0, locals := 73 } [(h_t, .inr (2, [.ref h_t_counts, .ref h_t_taken])), (h_t_counts, .inl (cA 0, 48, .inl counts)), (h_t_taken, .inl (cA 0, 1440, .inl taken)), (h_p1, .inr (0, [.int q1_width, .int q1_height, .int q1_slack, .int q1_limit, .int q1_paragraphs, u_p1_costs, .ref h_p1_rows])), (h_p1_rows, .inl (cA 0, 544, .inl q1_rows))] [.ref h_t, .ref h_p1] 0 0 (PV (fun w1 => ∃ (counts' : Nat → Int32) (taken' : Nat → Int32), w1 = [(h_t, .inr (2, [.ref h_t_counts, .ref h_t_taken])), (h_t_counts, .inl (cA 0, 48, .inl (counts'))), (h_t_taken, .inl (cA 0, 1440, .inl (taken'))), (h_p1, .inr (0, [.int q1_width, .int q1_height, .int q1_slack, .int q1_limit, .int q1_paragraphs, u_p1_costs, .ref h_p1_rows])), (h_p1_rows, .inl (cA 0, 544, .inl q1_rows))] ∧ Post counts' taken')) := by
  refine Con.of (by decide) (Nat.le_of_ble_eq_true rfl) ?_
  intro p e s m args below meth c C hr hini
  have B12 : ∀ (K2 : (Nat → Int32) → (Nat → Int32) → Int32 → Prop) (hK2 : ∀ (counts_v : Nat → Int32) (taken_v : Nat → Int32) (x2 : Int32), K2 counts_v taken_v x2 → Kf p l e { frames := 3, cells := 0, slots := 0, locals := 73 } s m args below meth c D (va_A [(h_t, .inr (2, [.ref h_t_counts, .ref h_t_taken])), (h_t_counts, .inl (cA 0, 48, .inl counts)), (h_t_taken, .inl (cA 0, 1440, .inl taken)), (h_p1, .inr (0, [.int q1_width, .int q1_height, .int q1_slack, .int q1_limit, .int q1_paragraphs, u_p1_costs, .ref h_p1_rows])), (h_p1_rows, .inl (cA 0, 544, .inl q1_rows))] s.heap.size) 4 0 0 (MQ below (QC D [(h_t, .inr (2, [.ref h_t_counts, .ref h_t_taken])), (h_t_counts, .inl (cA 0, 48, .inl counts)), (h_t_taken, .inl (cA 0, 1440, .inl taken)), (h_p1, .inr (0, [.int q1_width, .int q1_height, .int q1_slack, .int q1_limit, .int q1_paragraphs, u_p1_costs, .ref h_p1_rows])), (h_p1_rows, .inl (cA 0, 544, .inl q1_rows))] s.heap.size (PV (fun w1 => ∃ (counts' : Nat → Int32) (taken' : Nat → Int32), w1 = [(h_t, .inr (2, [.ref h_t_counts, .ref h_t_taken])), (h_t_counts, .inl (cA 0, 48, .inl (counts'))), (h_t_taken, .inl (cA 0, 1440, .inl (taken'))), (h_p1, .inr (0, [.int q1_width, .int q1_height, .int q1_slack, .int q1_limit, .int q1_paragraphs, u_p1_costs, .ref h_p1_rows])), (h_p1_rows, .inl (cA 0, 544, .inl q1_rows))] ∧ Post counts' taken'))) args s 0 0 (va_A [(h_t, .inr (2, [.ref h_t_counts, .ref h_t_taken])), (h_t_counts, .inl (cA 0, 48, .inl counts)), (h_t_taken, .inl (cA 0, 1440, .inl taken)), (h_p1, .inr (0, [.int q1_width, .int q1_height, .int q1_slack, .int q1_limit, .int q1_paragraphs, u_p1_costs, .ref h_p1_rows])), (h_p1_rows, .inl (cA 0, 544, .inl q1_rows))] s.heap.size)) [(h_t, .inr (2, [.ref h_t_counts, .ref h_t_taken])), (h_t_counts, .inl (cA 0, 48, .inl counts_v)), (h_t_taken, .inl (cA 0, 1440, .inl taken_v)), (h_p1, .inr (0, [.int q1_width, .int q1_height, .int q1_slack, .int q1_limit, .int q1_paragraphs, u_p1_costs, .ref h_p1_rows])), (h_p1_rows, .inl (cA 0, 544, .inl q1_rows))] 2 [(0, .ref h_t), (1, .ref h_p1), (2, .int x2)] []) (n : Nat) (counts_v : Nat → Int32) (taken_v : Nat → Int32) (x2 : Int32) (x3 : Int32), wpX2_breakAll_L12 q1_width q1_slack q1_paragraphs q1_rows Post K2 n counts_v taken_v x2 x3 → Kf p l e { frames := 3, cells := 0, slots := 0, locals := 73 } s m args below meth c D (va_A [(h_t, .inr (2, [.ref h_t_counts, .ref h_t_taken])), (h_t_counts, .inl (cA 0, 48, .inl counts)), (h_t_taken, .inl (cA 0, 1440, .inl taken)), (h_p1, .inr (0, [.int q1_width, .int q1_height, .int q1_slack, .int q1_limit, .int q1_paragraphs, u_p1_costs, .ref h_p1_rows])), (h_p1_rows, .inl (cA 0, 544, .inl q1_rows))] s.heap.size) 4 0 0 (MQ below (QC D [(h_t, .inr (2, [.ref h_t_counts, .ref h_t_taken])), (h_t_counts, .inl (cA 0, 48, .inl counts)), (h_t_taken, .inl (cA 0, 1440, .inl taken)), (h_p1, .inr (0, [.int q1_width, .int q1_height, .int q1_slack, .int q1_limit, .int q1_paragraphs, u_p1_costs, .ref h_p1_rows])), (h_p1_rows, .inl (cA 0, 544, .inl q1_rows))] s.heap.size (PV (fun w1 => ∃ (counts' : Nat → Int32) (taken' : Nat → Int32), w1 = [(h_t, .inr (2, [.ref h_t_counts, .ref h_t_taken])), (h_t_counts, .inl (cA 0, 48, .inl (counts'))), (h_t_taken, .inl (cA 0, 1440, .inl (taken'))), (h_p1, .inr (0, [.int q1_width, .int q1_height, .int q1_slack, .int q1_limit, .int q1_paragraphs, u_p1_costs, .ref h_p1_rows])), (h_p1_rows, .inl (cA 0, 544, .inl q1_rows))] ∧ Post counts' taken'))) args s 0 0 (va_A [(h_t, .inr (2, [.ref h_t_counts, .ref h_t_taken])), (h_t_counts, .inl (cA 0, 48, .inl counts)), (h_t_taken, .inl (cA 0, 1440, .inl taken)), (h_p1, .inr (0, [.int q1_width, .int q1_height, .int q1_slack, .int q1_limit, .int q1_paragraphs, u_p1_costs, .ref h_p1_rows])), (h_p1_rows, .inl (cA 0, 544, .inl q1_rows))] s.heap.size)) [(h_t, .inr (2, [.ref h_t_counts, .ref h_t_taken])), (h_t_counts, .inl (cA 0, 48, .inl counts_v)), (h_t_taken, .inl (cA 0, 1440, .inl taken_v)), (h_p1, .inr (0, [.int q1_width, .int q1_height, .int q1_slack, .int q1_limit, .int q1_paragraphs, u_p1_costs, .ref h_p1_rows])), (h_p1_rows, .inl (cA 0, 544, .inl q1_rows))] 12 [(0, .ref h_t), (1, .ref h_p1), (2, .int x2), (3, .int x3)] [] := by
    intro K2 hK2 n
    induction n with
    | zero =>
      intro counts_v taken_v x2 x3 H
      exact H.elim
    | succ n12 ih12 =>
      intro counts_v taken_v x2 x3 H
      refine k_iload_n C 3 (pc := 12) dX2_breakAll_12 rfl rfl ?_
      refine k_iconst C (pc := 13) (v := (2 : Int32)) dX2_breakAll_13 rfl ?_
      refine k_icmp_gt C (pc := 14) (tgt := 30) dX2_breakAll_14 (by decide) (fun c_14 => ?_) (fun c_14 => ?_)
      · have H := H.1 c_14
        refine k_iinc C (pc := 30) (k := 2) (v := x2 + (1 : Int32)) dX2_breakAll_30 rfl rfl (Nat.lt_of_lt_of_le (Nat.lt_succ_self _) (Nat.le_of_ble_eq_true rfl)) (lv' := [(2, .int (x2 + (1 : Int32))), (0, .ref h_t), (1, .ref h_p1), (3, .int x3)]) rfl ?_
        refine k_goto C (pc := 33) (tgt := 2) dX2_breakAll_33 (by decide) ?_
        refine k_lv (pc := 2) [1, 2, 0] (lv' := [(0, .ref h_t), (1, .ref h_p1), (2, .int (x2 + (1 : Int32)))]) rfl ?_
        exact hK2 counts_v taken_v (x2 + (1 : Int32)) H
      · have H := H.2 c_14
        refine k_aload_n C 0 (pc := 17) dX2_breakAll_17 rfl rfl ?_
        refine k_aload_n C 1 (pc := 18) dX2_breakAll_18 rfl rfl ?_
        refine k_iload_n C 2 (pc := 19) dX2_breakAll_19 rfl rfl ?_
        refine k_iload_n C 3 (pc := 20) dX2_breakAll_20 rfl rfl ?_
        refine k_callv C (pc := 21) [0, 1, 2, 3, 4] [] (wc := [(h_t, .inr (2, [.ref h_t_counts, .ref h_t_taken])), (h_t_counts, .inl (cA 0, 48, .inl counts_v)), (h_t_taken, .inl (cA 0, 1440, .inl taken_v)), (h_p1, .inr (0, [.int q1_width, .int q1_height, .int q1_slack, .int q1_limit, .int q1_paragraphs, u_p1_costs, .ref h_p1_rows])), (h_p1_rows, .inl (cA 0, 544, .inl q1_rows))]) (wr := []) rfl rfl rfl rfl (by decide) (k_runV C (As := [.ref h_p1, .int x2, .int x3]) (rest := []) (ci := 2) (q0 := 0) (conX2_breakUp l D cA h_t h_p1 h_t_counts h_t_taken h_p1_rows u_p1_costs counts_v taken_v q1_width q1_height q1_slack q1_limit q1_paragraphs q1_rows x2 x3  _ H) ⟨k_cwB C tW_2_35 tW_2_32 tW_1_5 okX2_breakUp rfl rfl ⟨Nat.le_of_ble_eq_true rfl, Nat.le_of_ble_eq_true rfl⟩, C.w tW_2_33, C.w tW_2_34⟩ rfl rfl rfl rfl rfl (Nat.le_of_ble_eq_true rfl) dX2_breakAll_21 ⟨Nat.le_of_ble_eq_true rfl, Nat.le_of_ble_eq_true rfl⟩) (fun w1_ hw_ => ?_)
        obtain ⟨counts_1, taken_1, rfl, H⟩ := hw_
        refine k_ws [0, 1, 2, 3, 4] (ws' := [(h_t, .inr (2, [.ref h_t_counts, .ref h_t_taken])), (h_t_counts, .inl (cA 0, 48, .inl counts_1)), (h_t_taken, .inl (cA 0, 1440, .inl taken_1)), (h_p1, .inr (0, [.int q1_width, .int q1_height, .int q1_slack, .int q1_limit, .int q1_paragraphs, u_p1_costs, .ref h_p1_rows])), (h_p1_rows, .inl (cA 0, 544, .inl q1_rows))]) rfl rfl ?_
        refine k_iinc C (pc := 24) (k := 3) (v := x3 + (1 : Int32)) dX2_breakAll_24 rfl rfl (Nat.lt_of_lt_of_le (Nat.lt_succ_self _) (Nat.le_of_ble_eq_true rfl)) (lv' := [(3, .int (x3 + (1 : Int32))), (0, .ref h_t), (1, .ref h_p1), (2, .int x2)]) rfl ?_
        refine k_goto C (pc := 27) (tgt := 12) dX2_breakAll_27 (by decide) ?_
        refine k_lv (pc := 12) [1, 2, 3, 0] (lv' := [(0, .ref h_t), (1, .ref h_p1), (2, .int x2), (3, .int (x3 + (1 : Int32)))]) rfl ?_
        exact ih12 counts_1 taken_1 x2 (x3 + (1 : Int32)) H
  have B2 : ∀  (n : Nat) (counts_v : Nat → Int32) (taken_v : Nat → Int32) (x2 : Int32), wpX2_breakAll_L2 q1_width q1_slack q1_paragraphs q1_rows Post  n counts_v taken_v x2 → Kf p l e { frames := 3, cells := 0, slots := 0, locals := 73 } s m args below meth c D (va_A [(h_t, .inr (2, [.ref h_t_counts, .ref h_t_taken])), (h_t_counts, .inl (cA 0, 48, .inl counts)), (h_t_taken, .inl (cA 0, 1440, .inl taken)), (h_p1, .inr (0, [.int q1_width, .int q1_height, .int q1_slack, .int q1_limit, .int q1_paragraphs, u_p1_costs, .ref h_p1_rows])), (h_p1_rows, .inl (cA 0, 544, .inl q1_rows))] s.heap.size) 4 0 0 (MQ below (QC D [(h_t, .inr (2, [.ref h_t_counts, .ref h_t_taken])), (h_t_counts, .inl (cA 0, 48, .inl counts)), (h_t_taken, .inl (cA 0, 1440, .inl taken)), (h_p1, .inr (0, [.int q1_width, .int q1_height, .int q1_slack, .int q1_limit, .int q1_paragraphs, u_p1_costs, .ref h_p1_rows])), (h_p1_rows, .inl (cA 0, 544, .inl q1_rows))] s.heap.size (PV (fun w1 => ∃ (counts' : Nat → Int32) (taken' : Nat → Int32), w1 = [(h_t, .inr (2, [.ref h_t_counts, .ref h_t_taken])), (h_t_counts, .inl (cA 0, 48, .inl (counts'))), (h_t_taken, .inl (cA 0, 1440, .inl (taken'))), (h_p1, .inr (0, [.int q1_width, .int q1_height, .int q1_slack, .int q1_limit, .int q1_paragraphs, u_p1_costs, .ref h_p1_rows])), (h_p1_rows, .inl (cA 0, 544, .inl q1_rows))] ∧ Post counts' taken'))) args s 0 0 (va_A [(h_t, .inr (2, [.ref h_t_counts, .ref h_t_taken])), (h_t_counts, .inl (cA 0, 48, .inl counts)), (h_t_taken, .inl (cA 0, 1440, .inl taken)), (h_p1, .inr (0, [.int q1_width, .int q1_height, .int q1_slack, .int q1_limit, .int q1_paragraphs, u_p1_costs, .ref h_p1_rows])), (h_p1_rows, .inl (cA 0, 544, .inl q1_rows))] s.heap.size)) [(h_t, .inr (2, [.ref h_t_counts, .ref h_t_taken])), (h_t_counts, .inl (cA 0, 48, .inl counts_v)), (h_t_taken, .inl (cA 0, 1440, .inl taken_v)), (h_p1, .inr (0, [.int q1_width, .int q1_height, .int q1_slack, .int q1_limit, .int q1_paragraphs, u_p1_costs, .ref h_p1_rows])), (h_p1_rows, .inl (cA 0, 544, .inl q1_rows))] 2 [(0, .ref h_t), (1, .ref h_p1), (2, .int x2)] [] := by
    intro  n
    induction n with
    | zero =>
      intro counts_v taken_v x2 H
      exact H.elim
    | succ n2 ih2 =>
      intro counts_v taken_v x2 H
      refine k_iload_n C 2 (pc := 2) dX2_breakAll_2 rfl rfl ?_
      refine k_aload_n C 1 (pc := 3) dX2_breakAll_3 rfl rfl ?_
      refine k_get C (pc := 4) inW_X0 3 4 rfl rfl (Nat.lt_of_lt_of_le (Nat.lt_succ_self _) (Nat.le_of_ble_eq_true rfl)) (ref := "WidowWatch$Book") tW_1_67 rfl rfl dX2_breakAll_4 ?_
      refine k_icmp_ge C (pc := 7) (tgt := 36) dX2_breakAll_7 (by decide) (fun c_7 => ?_) (fun c_7 => ?_)
      · have H := H.1 c_7
        exact k_vret C (pc := 36) hr dX2_breakAll_36 ⟨_, _, rfl, H⟩
      · have H := H.2 c_7
        refine k_iconst C (pc := 10) (v := (0 : Int32)) dX2_breakAll_10 rfl ?_
        refine k_istore_n C (pc := 11) dX2_breakAll_11 rfl (Nat.lt_of_lt_of_le (Nat.lt_succ_self _) (Nat.le_of_ble_eq_true rfl)) (lv' := [(3, .int (0 : Int32)), (0, .ref h_t), (1, .ref h_p1), (2, .int x2)]) rfl ?_
        obtain ⟨n_, H⟩ := H
        refine k_lv (pc := 12) [1, 2, 3, 0] (lv' := [(0, .ref h_t), (1, .ref h_p1), (2, .int x2), (3, .int (0 : Int32))]) rfl ?_
        exact B12 (wpX2_breakAll_L2 q1_width q1_slack q1_paragraphs q1_rows Post  n2) ih2 n_ counts_v taken_v x2 (0 : Int32) H
  refine k_eq (ws' := [(h_t, .inr (2, [.ref h_t_counts, .ref h_t_taken])), (h_t_counts, .inl (cA 0, 48, .inl counts)), (h_t_taken, .inl (cA 0, 1440, .inl taken)), (h_p1, .inr (0, [.int q1_width, .int q1_height, .int q1_slack, .int q1_limit, .int q1_paragraphs, u_p1_costs, .ref h_p1_rows])), (h_p1_rows, .inl (cA 0, 544, .inl q1_rows))]) (lv' := [(0, .ref h_t), (1, .ref h_p1)]) (st' := []) rfl rfl rfl ?_
  refine k_iconst C (pc := 0) (v := (0 : Int32)) dX2_breakAll_0 rfl ?_
  refine k_istore_n C (pc := 1) dX2_breakAll_1 rfl (Nat.lt_of_lt_of_le (Nat.lt_succ_self _) (Nat.le_of_ble_eq_true rfl)) (lv' := [(2, .int (0 : Int32)), (0, .ref h_t), (1, .ref h_p1)]) rfl ?_
  obtain ⟨n_, H⟩ := H
  refine k_lv (pc := 2) [1, 2, 0] (lv' := [(0, .ref h_t), (1, .ref h_p1), (2, .int (0 : Int32))]) rfl ?_
  exact B2  n_ counts taken (0 : Int32) H
