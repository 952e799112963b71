/-! WidowWatch.get([II)I -/
theorem dX6_get_0 : decode cX6_get 0 = .ok (.iload_n 1, 1) := by decide +kernel
theorem dX6_get_1 : decode cX6_get 1 = .ok (.ifCond .lt 15, 3) := by decide +kernel
theorem dX6_get_4 : decode cX6_get 4 = .ok (.iload_n 1, 1) := by decide +kernel
theorem dX6_get_5 : decode cX6_get 5 = .ok (.aload_n 0, 1) := by decide +kernel
theorem dX6_get_6 : decode cX6_get 6 = .ok (.arraylength, 1) := by decide +kernel
theorem dX6_get_7 : decode cX6_get 7 = .ok (.if_icmp .ge 9, 3) := by decide +kernel
theorem dX6_get_10 : decode cX6_get 10 = .ok (.aload_n 0, 1) := by decide +kernel
theorem dX6_get_11 : decode cX6_get 11 = .ok (.iload_n 1, 1) := by decide +kernel
theorem dX6_get_12 : decode cX6_get 12 = .ok (.iaload, 1) := by decide +kernel
theorem dX6_get_13 : decode cX6_get 13 = .ok (.goto 4, 3) := by decide +kernel
theorem dX6_get_16 : decode cX6_get 16 = .ok (.iconst 0, 1) := by decide +kernel
theorem dX6_get_17 : decode cX6_get 17 = .ok (.ireturn, 1) := by decide +kernel
theorem okX6_get : okY yX6_get 2 := ⟨by decide +kernel, by decide +kernel, by decide +kernel⟩
def wpX6_get (n_q1 : Nat) (q1 : Nat → Int32) (a2 : Int32) (Post : Int32 → Prop) : Prop := (a2 < 0 → Post (0 : Int32)) ∧ (¬ a2 < 0 → ((nI n_q1) ≤ a2 → Post (0 : Int32)) ∧ (¬ (nI n_q1) ≤ a2 → vp_in a2 n_q1 ∧ Post (q1 a2.toNatClampNeg)))
set_option maxHeartbeats 4000000 in
set_option maxRecDepth 100000 in
theorem conX6_get (l : Launch) (D : va_G) (cA : Nat → ClassId) (h_p1 : Nat) (n_q1 : Nat) (q1 : Nat → Int32) (a2 : Int32) (Post : Int32 → Prop) (H : wpX6_get n_q1 q1 a2 Post) : Con l D cA yX6_get (wm yX6_get cX6_get 2 (some .int)) { frames := 0, cells := 0, slots := 0, locals := 0 } [(h_p1, .inl (cA 0, n_q1, .inl q1))] [.ref h_p1, .int a2] 0 0 (PI (fun r w1 => w1 = [(h_p1, .inl (cA 0, n_q1, .inl q1))] ∧ Post r)) := by
  refine Con.of (by decide) (Nat.le_of_ble_eq_true rfl) ?_
  intro p e s m args below meth c C hr hini
  refine k_eq (ws' := [(h_p1, .inl (cA 0, n_q1, .inl q1))]) (lv' := [(0, .ref h_p1), (1, .int a2)]) (st' := []) rfl rfl rfl ?_
  refine k_iload_n C 1 (pc := 0) dX6_get_0 rfl rfl ?_
  refine k_if_lt C (pc := 1) (tgt := 16) dX6_get_1 (by decide) (fun c_1 => ?_) (fun c_1 => ?_)
  · have H := H.1 c_1
    refine k_iconst C (pc := 16) (v := (0 : Int32)) dX6_get_16 rfl ?_
    exact k_iret C (pc := 17) hr dX6_get_17 ⟨rfl, H⟩
  · have H := H.2 c_1
    refine k_iload_n C 1 (pc := 4) dX6_get_4 rfl rfl ?_
    refine k_aload_n C 0 (pc := 5) dX6_get_5 rfl rfl ?_
    refine k_alen C (pc := 6) (v := nI n_q1) 0 0 rfl rfl rfl dX6_get_6 ?_
    refine k_icmp_ge C (pc := 7) (tgt := 16) dX6_get_7 (by decide) (fun c_7 => ?_) (fun c_7 => ?_)
    · have H := H.1 c_7
      refine k_iconst C (pc := 16) (v := (0 : Int32)) dX6_get_16 rfl ?_
      exact k_iret C (pc := 17) hr dX6_get_17 ⟨rfl, H⟩
    · have H := H.2 c_7
      refine k_aload_n C 0 (pc := 10) dX6_get_10 rfl rfl ?_
      refine k_iload_n C 1 (pc := 11) dX6_get_11 rfl rfl ?_
      obtain ⟨hi_, H⟩ := H
      refine k_iald C (pc := 12) 0 rfl hi_ dX6_get_12 ?_
      refine k_goto C (pc := 13) (tgt := 17) dX6_get_13 (by decide) ?_
      exact k_iret C (pc := 17) hr dX6_get_17 ⟨rfl, H⟩
/-! WidowWatch.put([III)V -/
theorem dX6_put_0 : decode cX6_put 0 = .ok (.iload_n 1, 1) := by decide +kernel
theorem dX6_put_1 : decode cX6_put 1 = .ok (.ifCond .lt 13, 3) := by decide +kernel
theorem dX6_put_4 : decode cX6_put 4 = .ok (.iload_n 1, 1) := by decide +kernel
theorem dX6_put_5 : decode cX6_put 5 = .ok (.aload_n 0, 1) := by decide +kernel
theorem dX6_put_6 : decode cX6_put 6 = .ok (.arraylength, 1) := by decide +kernel
theorem dX6_put_7 : decode cX6_put 7 = .ok (.if_icmp .ge 7, 3) := by decide +kernel
theorem dX6_put_10 : decode cX6_put 10 = .ok (.aload_n 0, 1) := by decide +kernel
theorem dX6_put_11 : decode cX6_put 11 = .ok (.iload_n 1, 1) := by decide +kernel
theorem dX6_put_12 : decode cX6_put 12 = .ok (.iload_n 2, 1) := by decide +kernel
theorem dX6_put_13 : decode cX6_put 13 = .ok (.iastore, 1) := by decide +kernel
theorem dX6_put_14 : decode cX6_put 14 = .ok (.return_, 1) := by decide +kernel
theorem okX6_put : okY yX6_put 3 := ⟨by decide +kernel, by decide +kernel, by decide +kernel⟩
def wpX6_put (n_q1 : Nat) (q1 : Nat → Int32) (a2 : Int32) (a3 : Int32) (Post : (Nat → Int32) → Prop) : Prop := (a2 < 0 → Post q1) ∧ (¬ a2 < 0 → ((nI n_q1) ≤ a2 → Post q1) ∧ (¬ (nI n_q1) ≤ a2 → vp_in a2 n_q1 ∧ Post (upd q1 a2.toNatClampNeg a3)))
set_option maxHeartbeats 4000000 in
set_option maxRecDepth 100000 in
theorem conX6_put (l : Launch) (D : va_G) (cA : Nat → ClassId) (h_p1 : Nat) (n_q1 : Nat) (q1 : Nat → Int32) (a2 : Int32) (a3 : Int32) (Post : (Nat → Int32) → Prop) (H : wpX6_put n_q1 q1 a2 a3 Post) : Con l D cA yX6_put (wm yX6_put cX6_put 3 none) { frames := 0, cells := 0, slots := 0, locals := 0 } [(h_p1, .inl (cA 0, n_q1, .inl q1))] [.ref h_p1, .int a2, .int a3] 0 0 (PV (fun w1 => ∃ (q1' : Nat → Int32), w1 = [(h_p1, .inl (cA 0, n_q1, .inl (q1')))] ∧ Post q1')) := by
  refine Con.of (by decide) (Nat.le_of_ble_eq_true rfl) ?_
  intro p e s m args below meth c C hr hini
  refine k_eq (ws' := [(h_p1, .inl (cA 0, n_q1, .inl q1))]) (lv' := [(0, .ref h_p1), (1, .int a2), (2, .int a3)]) (st' := []) rfl rfl rfl ?_
  refine k_iload_n C 1 (pc := 0) dX6_put_0 rfl rfl ?_
  refine k_if_lt C (pc := 1) (tgt := 14) dX6_put_1 (by decide) (fun c_1 => ?_) (fun c_1 => ?_)
  · have H := H.1 c_1
    exact k_vret C (pc := 14) hr dX6_put_14 ⟨_, rfl, H⟩
  · have H := H.2 c_1
    refine k_iload_n C 1 (pc := 4) dX6_put_4 rfl rfl ?_
    refine k_aload_n C 0 (pc := 5) dX6_put_5 rfl rfl ?_
    refine k_alen C (pc := 6) (v := nI n_q1) 0 0 rfl rfl rfl dX6_put_6 ?_
    refine k_icmp_ge C (pc := 7) (tgt := 14) dX6_put_7 (by decide) (fun c_7 => ?_) (fun c_7 => ?_)
    · have H := H.1 c_7
      exact k_vret C (pc := 14) hr dX6_put_14 ⟨_, rfl, H⟩
    · have H := H.2 c_7
      refine k_aload_n C 0 (pc := 10) dX6_put_10 rfl rfl ?_
      refine k_iload_n C 1 (pc := 11) dX6_put_11 rfl rfl ?_
      refine k_iload_n C 2 (pc := 12) dX6_put_12 rfl rfl ?_
      obtain ⟨hi_, H⟩ := H
      refine k_iast C (pc := 13) 0 rfl hi_ (ws' := [(h_p1, .inl (cA 0, n_q1, .inl (upd q1 a2.toNatClampNeg a3)))]) rfl dX6_put_13 ?_
      exact k_vret C (pc := 14) hr dX6_put_14 ⟨_, rfl, H⟩
/-! WidowWatch.copyRow([I[I)V -/
theorem dX6_copyRow_0 : decode cX6_copyRow 0 = .ok (.iconst 0, 1) := by decide +kernel
theorem dX6_copyRow_1 : decode cX6_copyRow 1 = .ok (.istore_n 2, 1) := by decide +kernel
theorem dX6_copyRow_2 : decode cX6_copyRow 2 = .ok (.iload_n 2, 1) := by decide +kernel
theorem dX6_copyRow_3 : decode cX6_copyRow 3 = .ok (.aload_n 0, 1) := by decide +kernel
theorem dX6_copyRow_4 : decode cX6_copyRow 4 = .ok (.arraylength, 1) := by decide +kernel
theorem dX6_copyRow_5 : decode cX6_copyRow 5 = .ok (.if_icmp .ge 21, 3) := by decide +kernel
theorem dX6_copyRow_8 : decode cX6_copyRow 8 = .ok (.iload_n 2, 1) := by decide +kernel
theorem dX6_copyRow_9 : decode cX6_copyRow 9 = .ok (.aload_n 1, 1) := by decide +kernel
theorem dX6_copyRow_10 : decode cX6_copyRow 10 = .ok (.arraylength, 1) := by decide +kernel
theorem dX6_copyRow_11 : decode cX6_copyRow 11 = .ok (.if_icmp .ge 15, 3) := by decide +kernel
theorem dX6_copyRow_14 : decode cX6_copyRow 14 = .ok (.aload_n 1, 1) := by decide +kernel
theorem dX6_copyRow_15 : decode cX6_copyRow 15 = .ok (.iload_n 2, 1) := by decide +kernel
theorem dX6_copyRow_16 : decode cX6_copyRow 16 = .ok (.aload_n 0, 1) := by decide +kernel
theorem dX6_copyRow_17 : decode cX6_copyRow 17 = .ok (.iload_n 2, 1) := by decide +kernel
theorem dX6_copyRow_18 : decode cX6_copyRow 18 = .ok (.iaload, 1) := by decide +kernel
theorem dX6_copyRow_19 : decode cX6_copyRow 19 = .ok (.iastore, 1) := by decide +kernel
theorem dX6_copyRow_20 : decode cX6_copyRow 20 = .ok (.iinc 2 1, 3) := by decide +kernel
theorem dX6_copyRow_23 : decode cX6_copyRow 23 = .ok (.goto (-21), 3) := by decide +kernel
theorem dX6_copyRow_26 : decode cX6_copyRow 26 = .ok (.return_, 1) := by decide +kernel
theorem okX6_copyRow : okY yX6_copyRow 2 := ⟨by decide +kernel, by decide +kernel, by decide +kernel⟩
def wpX6_copyRow_L2 (n_q1 : Nat) (q1 : Nat → Int32) (n_q2 : Nat) (Post : (Nat → Int32) → Prop)  : Nat → (Nat → Int32) → Int32 → Prop
  | 0 => fun _ _ => False
  | n2 + 1 => fun q2_v x2 => ((nI n_q1) ≤ x2 → Post q2_v) ∧ (¬ (nI n_q1) ≤ x2 → ((nI n_q2) ≤ x2 → Post q2_v) ∧ (¬ (nI n_q2) ≤ x2 → vp_in x2 n_q1 ∧ vp_in x2 n_q2 ∧ (wpX6_copyRow_L2 n_q1 q1 n_q2 Post  n2) (upd q2_v x2.toNatClampNeg (q1 x2.toNatClampNeg)) (x2 + (1 : Int32))))
def wpX6_copyRow (n_q1 : Nat) (q1 : Nat → Int32) (n_q2 : Nat) (q2 : Nat → Int32) (Post : (Nat → Int32) → Prop) : Prop := ∃ m_, wpX6_copyRow_L2 n_q1 q1 n_q2 Post  m_ q2 (0 : Int32)
set_option maxHeartbeats 4000000 in
set_option maxRecDepth 100000 in
theorem conX6_copyRow (l : Launch) (D : va_G) (cA : Nat → ClassId) (h_p1 h_p2 : Nat) (n_q1 : Nat) (q1 : Nat → Int32) (n_q2 : Nat) (q2 : Nat → Int32) (Post : (Nat → Int32) → Prop) (H : wpX6_copyRow n_q1 q1 n_q2 q2 Post) : Con l D cA yX6_copyRow (wm yX6_copyRow cX6_copyRow 3 none) { frames := 0, cells := 0, slots := 0, locals := 0 } [(h_p1, .inl (cA 0, n_q1, .inl q1)), (h_p2, .inl (cA 0, n_q2, .inl q2))] [.ref h_p1, .ref h_p2] 0 0 (PV (fun w1 => ∃ (q2' : Nat → Int32), w1 = [(h_p1, .inl (cA 0, n_q1, .inl q1)), (h_p2, .inl (cA 0, n_q2, .inl (q2')))] ∧ Post q2')) := by
  refine Con.of (by decide) (Nat.le_of_ble_eq_true rfl) ?_
  intro p e s m args below meth c C hr hini
  have B2 : ∀  (n : Nat) (q2_v : Nat → Int32) (x2 : Int32), wpX6_copyRow_L2 n_q1 q1 n_q2 Post  n q2_v x2 → Kf p l e { frames := 0, cells := 0, slots := 0, locals := 0 } s m args below meth c D (va_A [(h_p1, .inl (cA 0, n_q1, .inl q1)), (h_p2, .inl (cA 0, n_q2, .inl q2))] s.heap.size) 3 0 0 (MQ below (QC D [(h_p1, .inl (cA 0, n_q1, .inl q1)), (h_p2, .inl (cA 0, n_q2, .inl q2))] s.heap.size (PV (fun w1 => ∃ (q2' : Nat → Int32), w1 = [(h_p1, .inl (cA 0, n_q1, .inl q1)), (h_p2, .inl (cA 0, n_q2, .inl (q2')))] ∧ Post q2'))) args s 0 0 (va_A [(h_p1, .inl (cA 0, n_q1, .inl q1)), (h_p2, .inl (cA 0, n_q2, .inl q2))] s.heap.size)) [(h_p1, .inl (cA 0, n_q1, .inl q1)), (h_p2, .inl (cA 0, n_q2, .inl q2_v))] 2 [(0, .ref h_p1), (1, .ref h_p2), (2, .int x2)] [] := by
    intro  n
    induction n with
    | zero =>
      intro q2_v x2 H
      exact H.elim
    | succ n2 ih2 =>
      intro q2_v x2 H
      refine k_iload_n C 2 (pc := 2) dX6_copyRow_2 rfl rfl ?_
      refine k_aload_n C 0 (pc := 3) dX6_copyRow_3 rfl rfl ?_
      refine k_alen C (pc := 4) (v := nI n_q1) 0 0 rfl rfl rfl dX6_copyRow_4 ?_
      refine k_icmp_ge C (pc := 5) (tgt := 26) dX6_copyRow_5 (by decide) (fun c_5 => ?_) (fun c_5 => ?_)
      · have H := H.1 c_5
        exact k_vret C (pc := 26) hr dX6_copyRow_26 ⟨_, rfl, H⟩
      · have H := H.2 c_5
        refine k_iload_n C 2 (pc := 8) dX6_copyRow_8 rfl rfl ?_
        refine k_aload_n C 1 (pc := 9) dX6_copyRow_9 rfl rfl ?_
        refine k_alen C (pc := 10) (v := nI n_q2) 1 0 rfl rfl rfl dX6_copyRow_10 ?_
        refine k_icmp_ge C (pc := 11) (tgt := 26) dX6_copyRow_11 (by decide) (fun c_11 => ?_) (fun c_11 => ?_)
        · have H := H.1 c_11
          exact k_vret C (pc := 26) hr dX6_copyRow_26 ⟨_, rfl, H⟩
        · have H := H.2 c_11
          refine k_aload_n C 1 (pc := 14) dX6_copyRow_14 rfl rfl ?_
          refine k_iload_n C 2 (pc := 15) dX6_copyRow_15 rfl rfl ?_
          refine k_aload_n C 0 (pc := 16) dX6_copyRow_16 rfl rfl ?_
          refine k_iload_n C 2 (pc := 17) dX6_copyRow_17 rfl rfl ?_
          obtain ⟨hi_, H⟩ := H
          refine k_iald C (pc := 18) 0 rfl hi_ dX6_copyRow_18 ?_
          obtain ⟨hi_, H⟩ := H
          refine k_iast C (pc := 19) 1 rfl hi_ (ws' := [(h_p1, .inl (cA 0, n_q1, .inl q1)), (h_p2, .inl (cA 0, n_q2, .inl (upd q2_v x2.toNatClampNeg (q1 x2.toNatClampNeg))))]) rfl dX6_copyRow_19 ?_
          refine k_iinc C (pc := 20) (k := 2) (v := x2 + (1 : Int32)) dX6_copyRow_20 rfl rfl (Nat.lt_of_lt_of_le (Nat.lt_succ_self _) (Nat.le_of_ble_eq_true rfl)) (lv' := [(2, .int (x2 + (1 : Int32))), (0, .ref h_p1), (1, .ref h_p2)]) rfl ?_
          refine k_goto C (pc := 23) (tgt := 2) dX6_copyRow_23 (by decide) ?_
          refine k_lv (pc := 2) [1, 2, 0] (lv' := [(0, .ref h_p1), (1, .ref h_p2), (2, .int (x2 + (1 : Int32)))]) rfl ?_
          exact ih2 (upd q2_v x2.toNatClampNeg (q1 x2.toNatClampNeg)) (x2 + (1 : Int32)) H
  refine k_eq (ws' := [(h_p1, .inl (cA 0, n_q1, .inl q1)), (h_p2, .inl (cA 0, n_q2, .inl q2))]) (lv' := [(0, .ref h_p1), (1, .ref h_p2)]) (st' := []) rfl rfl rfl ?_
  refine k_iconst C (pc := 0) (v := (0 : Int32)) dX6_copyRow_0 rfl ?_
  refine k_istore_n C (pc := 1) dX6_copyRow_1 rfl (Nat.lt_of_lt_of_le (Nat.lt_succ_self _) (Nat.le_of_ble_eq_true rfl)) (lv' := [(2, .int (0 : Int32)), (0, .ref h_p1), (1, .ref h_p2)]) rfl ?_
  obtain ⟨n_, H⟩ := H
  refine k_lv (pc := 2) [1, 2, 0] (lv' := [(0, .ref h_p1), (1, .ref h_p2), (2, .int (0 : Int32))]) rfl ?_
  exact B2  n_ q2 (0 : Int32) H
/-! WidowWatch$Book.wordsOf(I)I -/
theorem dX0_wordsOf_0 : decode cX0_wordsOf 0 = .ok (.aload_n 0, 1) := by decide +kernel
theorem dX0_wordsOf_1 : decode cX0_wordsOf 1 = .ok (.getfield 15, 3) := by decide +kernel
theorem dX0_wordsOf_4 : decode cX0_wordsOf 4 = .ok (.iload_n 1, 1) := by decide +kernel
theorem dX0_wordsOf_5 : decode cX0_wordsOf 5 = .ok (.bipush 34, 2) := by decide +kernel
theorem dX0_wordsOf_7 : decode cX0_wordsOf 7 = .ok (.imul, 1) := by decide +kernel
theorem dX0_wordsOf_8 : decode cX0_wordsOf 8 = .ok (.iconst 0, 1) := by decide +kernel
theorem dX0_wordsOf_9 : decode cX0_wordsOf 9 = .ok (.iadd, 1) := by decide +kernel
theorem dX0_wordsOf_10 : decode cX0_wordsOf 10 = .ok (.invokestatic 61, 3) := by decide +kernel
theorem dX0_wordsOf_13 : decode cX0_wordsOf 13 = .ok (.ireturn, 1) := by decide +kernel
theorem okX0_wordsOf : okY yX0_wordsOf 1 := ⟨by decide +kernel, by decide +kernel, by decide +kernel⟩
def wpX0_wordsOf (rows : Nat → Int32) (a1 : Int32) (Post : Int32 → Prop) : Prop := wpX6_get 544 rows ((a1 * (34 : Int32)) + (0 : Int32)) (fun r_1 => Post r_1)
set_option maxHeartbeats 4000000 in
set_option maxRecDepth 100000 in
theorem conX0_wordsOf (l : Launch) (D : va_G) (cA : Nat → ClassId) (h_t h_t_rows : Nat) (u_t_costs : Value) (width : Int32) (height : Int32) (slack : Int32) (limit : Int32) (paragraphs : Int32) (rows : Nat → Int32) (a1 : Int32) (Post : Int32 → Prop) (H : wpX0_wordsOf rows a1 Post) : Con l D cA yX0_wordsOf (wm yX0_wordsOf cX0_wordsOf 2 (some .int)) { frames := 1, cells := 0, slots := 0, locals := 21 } [(h_t, .inr (0, [.int width, .int height, .int slack, .int limit, .int paragraphs, u_t_costs, .ref h_t_rows])), (h_t_rows, .inl (cA 0, 544, .inl rows))] [.ref h_t, .int a1] 0 0 (PI (fun r w1 => w1 = [(h_t, .inr (0, [.int width, .int height, .int slack, .int limit, .int paragraphs, u_t_costs, .ref h_t_rows])), (h_t_rows, .inl (cA 0, 544, .inl rows))] ∧ Post r)) := by
  refine Con.of (by decide) (Nat.le_of_ble_eq_true rfl) ?_
  intro p e s m args below meth c C hr hini
  refine k_eq (ws' := [(h_t, .inr (0, [.int width, .int height, .int slack, .int limit, .int paragraphs, u_t_costs, .ref h_t_rows])), (h_t_rows, .inl (cA 0, 544, .inl rows))]) (lv' := [(0, .ref h_t), (1, .int a1)]) (st' := []) rfl rfl rfl ?_
  refine k_aload_n C 0 (pc := 0) dX0_wordsOf_0 rfl rfl ?_
  refine k_get C (pc := 1) inW_X0 0 6 rfl rfl (Nat.lt_of_lt_of_le (Nat.lt_succ_self _) (Nat.le_of_ble_eq_true rfl)) (ref := "WidowWatch$Book") tW_1_70 rfl rfl dX0_wordsOf_1 ?_
  refine k_iload_n C 1 (pc := 4) dX0_wordsOf_4 rfl rfl ?_
  refine k_bipush C (pc := 5) (v := (34 : Int32)) dX0_wordsOf_5 (by decide) ?_
  refine k_imul C (pc := 7) dX0_wordsOf_7 ?_
  refine k_iconst C (pc := 8) (v := (0 : Int32)) dX0_wordsOf_8 rfl ?_
  refine k_iadd C (pc := 9) dX0_wordsOf_9 ?_
  refine k_calli C (pc := 10) [1] [0] (wc := [(h_t_rows, .inl (cA 0, 544, .inl rows))]) (wr := [(h_t, .inr (0, [.int width, .int height, .int slack, .int limit, .int paragraphs, u_t_costs, .ref h_t_rows]))]) rfl rfl rfl rfl (by decide) (k_runSN C (As := [.ref h_t_rows, .int ((a1 * (34 : Int32)) + (0 : Int32))]) (rest := []) (conX6_get l D cA h_t_rows 544 rows ((a1 * (34 : Int32)) + (0 : Int32))  _ H) ⟨k_cwN C tW_2_46 (k_n6 C) tW_1_1 okX6_get rfl rfl ⟨Nat.le_of_ble_eq_true rfl, Nat.le_of_ble_eq_true rfl⟩, C.w tW_2_45, trivial⟩ rfl rfl (Nat.le_of_ble_eq_true rfl) dX0_wordsOf_10 ⟨Nat.le_of_ble_eq_true rfl, Nat.le_of_ble_eq_true rfl⟩) (fun r_1 w1_ hw_ => ?_)
  obtain ⟨rfl, H⟩ := hw_
  refine k_ws [0, 1] (ws' := [(h_t, .inr (0, [.int width, .int height, .int slack, .int limit, .int paragraphs, u_t_costs, .ref h_t_rows])), (h_t_rows, .inl (cA 0, 544, .inl rows))]) rfl rfl ?_
  exact k_iret C (pc := 13) hr dX0_wordsOf_13 ⟨rfl, H⟩
/-! WidowWatch$Book.allWords()I -/
theorem dX0_allWords_0 : decode cX0_allWords 0 = .ok (.iconst 0, 1) := by decide +kernel
theorem dX0_allWords_1 : decode cX0_allWords 1 = .ok (.istore_n 1, 1) := by decide +kernel
theorem dX0_allWords_2 : decode cX0_allWords 2 = .ok (.iconst 0, 1) := by decide +kernel
theorem dX0_allWords_3 : decode cX0_allWords 3 = .ok (.istore_n 2, 1) := by decide +kernel
theorem dX0_allWords_4 : decode cX0_allWords 4 = .ok (.iload_n 2, 1) := by decide +kernel
theorem dX0_allWords_5 : decode cX0_allWords 5 = .ok (.aload_n 0, 1) := by decide +kernel
theorem dX0_allWords_6 : decode cX0_allWords 6 = .ok (.getfield 34, 3) := by decide +kernel
theorem dX0_allWords_9 : decode cX0_allWords 9 = .ok (.if_icmp .ge 17, 3) := by decide +kernel
theorem dX0_allWords_12 : decode cX0_allWords 12 = .ok (.iload_n 1, 1) := by decide +kernel
theorem dX0_allWords_13 : decode cX0_allWords 13 = .ok (.aload_n 0, 1) := by decide +kernel
theorem dX0_allWords_14 : decode cX0_allWords 14 = .ok (.iload_n 2, 1) := by decide +kernel
theorem dX0_allWords_15 : decode cX0_allWords 15 = .ok (.invokevirtual 55, 3) := by decide +kernel
theorem dX0_allWords_18 : decode cX0_allWords 18 = .ok (.iadd, 1) := by decide +kernel
theorem dX0_allWords_19 : decode cX0_allWords 19 = .ok (.istore_n 1, 1) := by decide +kernel
theorem dX0_allWords_20 : decode cX0_allWords 20 = .ok (.iinc 2 1, 3) := by decide +kernel
theorem dX0_allWords_23 : decode cX0_allWords 23 = .ok (.goto (-19), 3) := by decide +kernel
theorem dX0_allWords_26 : decode cX0_allWords 26 = .ok (.iload_n 1, 1) := by decide +kernel
theorem dX0_allWords_27 : decode cX0_allWords 27 = .ok (.ireturn, 1) := by decide +kernel
theorem okX0_allWords : okY yX0_allWords 0 := ⟨by decide +kernel, by decide +kernel, by decide +kernel⟩
def wpX0_allWords_L4 (paragraphs : Int32) (rows : Nat → Int32) (Post : Int32 → Prop)  : Nat → Int32 → Int32 → Prop
  | 0 => fun _ _ => False
  | n4 + 1 => fun x1 x2 => (paragraphs ≤ x2 → Post x1) ∧ (¬ paragraphs ≤ x2 → wpX0_wordsOf rows x2 (fun r_1 => (wpX0_allWords_L4 paragraphs rows Post  n4) (x1 + r_1) (x2 + (1 : Int32))))
def wpX0_allWords (paragraphs : Int32) (rows : Nat → Int32) (Post : Int32 → Prop) : Prop := ∃ m_, wpX0_allWords_L4 paragraphs rows Post  m_ (0 : Int32) (0 : Int32)
set_option maxHeartbeats 4000000 in
set_option maxRecDepth 100000 in
theorem conX0_allWords (l : Launch) (D : va_G) (cA : Nat → ClassId) (h_t h_t_rows : Nat) (u_t_costs : Value) (width : Int32) (height : Int32) (slack : Int32) (limit : Int32) (paragraphs : Int32) (rows : Nat → Int32) (Post : Int32 → Prop) (H : wpX0_allWords paragraphs rows Post) : Con l D cA yX0_allWords (wm yX0_allWords cX0_allWords 3 (some .int)) { frames := 2, cells := 0, slots := 0, locals := 42 } [(h_t, .inr (0, [.int width, .int height, .int slack, .int limit, .int paragraphs, u_t_costs, .ref h_t_rows])), (h_t_rows, .inl (cA 0, 544, .inl rows))] [.ref h_t] 0 0 (PI (fun r w1 => w1 = [(h_t, .inr (0, [.int width, .int height, .int slack, .int limit, .int paragraphs, u_t_costs, .ref h_t_rows])), (h_t_rows, .inl (cA 0, 544, .inl rows))] ∧ Post r)) := by
  refine Con.of (by decide) (Nat.le_of_ble_eq_true rfl) ?_
  intro p e s m args below meth c C hr hini
  have B4 : ∀  (n : Nat) (x1 : Int32) (x2 : Int32), wpX0_allWords_L4 paragraphs rows Post  n x1 x2 → Kf p l e { frames := 2, cells := 0, slots := 0, locals := 42 } s m args below meth c D (va_A [(h_t, .inr (0, [.int width, .int height, .int slack, .int limit, .int paragraphs, u_t_costs, .ref h_t_rows])), (h_t_rows, .inl (cA 0, 544, .inl rows))] s.heap.size) 3 0 0 (MQ below (QC D [(h_t, .inr (0, [.int width, .int height, .int slack, .int limit, .int paragraphs, u_t_costs, .ref h_t_rows])), (h_t_rows, .inl (cA 0, 544, .inl rows))] s.heap.size (PI (fun r w1 => w1 = [(h_t, .inr (0, [.int width, .int height, .int slack, .int limit, .int paragraphs, u_t_costs, .ref h_t_rows])), (h_t_rows, .inl (cA 0, 544, .inl rows))] ∧ Post r))) args s 0 0 (va_A [(h_t, .inr (0, [.int width, .int height, .int slack, .int limit, .int paragraphs, u_t_costs, .ref h_t_rows])), (h_t_rows, .inl (cA 0, 544, .inl rows))] s.heap.size)) [(h_t, .inr (0, [.int width, .int height, .int slack, .int limit, .int paragraphs, u_t_costs, .ref h_t_rows])), (h_t_rows, .inl (cA 0, 544, .inl rows))] 4 [(0, .ref h_t), (1, .int x1), (2, .int x2)] [] := by
    intro  n
    induction n with
    | zero =>
      intro x1 x2 H
      exact H.elim
    | succ n4 ih4 =>
      intro x1 x2 H
      refine k_iload_n C 2 (pc := 4) dX0_allWords_4 rfl rfl ?_
      refine k_aload_n C 0 (pc := 5) dX0_allWords_5 rfl rfl ?_
      refine k_get C (pc := 6) inW_X0 0 4 rfl rfl (Nat.lt_of_lt_of_le (Nat.lt_succ_self _) (Nat.le_of_ble_eq_true rfl)) (ref := "WidowWatch$Book") tW_1_65 rfl rfl dX0_allWords_6 ?_
      refine k_icmp_ge C (pc := 9) (tgt := 26) dX0_allWords_9 (by decide) (fun c_9 => ?_) (fun c_9 => ?_)
      · have H := H.1 c_9
        refine k_iload_n C 1 (pc := 26) dX0_allWords_26 rfl rfl ?_
        exact k_iret C (pc := 27) hr dX0_allWords_27 ⟨rfl, H⟩
      · have H := H.2 c_9
        refine k_iload_n C 1 (pc := 12) dX0_allWords_12 rfl rfl ?_
        refine k_aload_n C 0 (pc := 13) dX0_allWords_13 rfl rfl ?_
        refine k_iload_n C 2 (pc := 14) dX0_allWords_14 rfl rfl ?_
        refine k_calli C (pc := 15) [0, 1] [] (wc := [(h_t, .inr (0, [.int width, .int height, .int slack, .int limit, .int paragraphs, u_t_costs, .ref h_t_rows])), (h_t_rows, .inl (cA 0, 544, .inl rows))]) (wr := []) rfl rfl rfl rfl (by decide) (k_runV C (As := [.int x2]) (rest := [.int x1]) (ci := 0) (q0 := 0) (conX0_wordsOf l D cA h_t h_t_rows u_t_costs width height slack limit paragraphs rows x2  _ H) ⟨k_cwB C tW_2_43 tW_3_143 tW_1_2 okX0_wordsOf rfl rfl ⟨Nat.le_of_ble_eq_true rfl, Nat.le_of_ble_eq_true rfl⟩, C.w tW_2_41, C.w tW_2_42⟩ rfl rfl rfl rfl rfl (Nat.le_of_ble_eq_true rfl) dX0_allWords_15 ⟨Nat.le_of_ble_eq_true rfl, Nat.le_of_ble_eq_true rfl⟩) (fun r_1 w1_ hw_ => ?_)
        obtain ⟨rfl, H⟩ := hw_
        refine k_ws [0, 1] (ws' := [(h_t, .inr (0, [.int width, .int height, .int slack, .int limit, .int paragraphs, u_t_costs, .ref h_t_rows])), (h_t_rows, .inl (cA 0, 544, .inl rows))]) rfl rfl ?_
        refine k_iadd C (pc := 18) dX0_allWords_18 ?_
        refine k_istore_n C (pc := 19) dX0_allWords_19 rfl (Nat.lt_of_lt_of_le (Nat.lt_succ_self _) (Nat.le_of_ble_eq_true rfl)) (lv' := [(1, .int (x1 + r_1)), (0, .ref h_t), (2, .int x2)]) rfl ?_
        refine k_iinc C (pc := 20) (k := 2) (v := x2 + (1 : Int32)) dX0_allWords_20 rfl rfl (Nat.lt_of_lt_of_le (Nat.lt_succ_self _) (Nat.le_of_ble_eq_true rfl)) (lv' := [(2, .int (x2 + (1 : Int32))), (1, .int (x1 + r_1)), (0, .ref h_t)]) rfl ?_
        refine k_goto C (pc := 23) (tgt := 4) dX0_allWords_23 (by decide) ?_
        refine k_lv (pc := 4) [2, 1, 0] (lv' := [(0, .ref h_t), (1, .int (x1 + r_1)), (2, .int (x2 + (1 : Int32)))]) rfl ?_
        exact ih4 (x1 + r_1) (x2 + (1 : Int32)) H
  refine k_eq (ws' := [(h_t, .inr (0, [.int width, .int height, .int slack, .int limit, .int paragraphs, u_t_costs, .ref h_t_rows])), (h_t_rows, .inl (cA 0, 544, .inl rows))]) (lv' := [(0, .ref h_t)]) (st' := []) rfl rfl rfl ?_
  refine k_iconst C (pc := 0) (v := (0 : Int32)) dX0_allWords_0 rfl ?_
  refine k_istore_n C (pc := 1) dX0_allWords_1 rfl (Nat.lt_of_lt_of_le (Nat.lt_succ_self _) (Nat.le_of_ble_eq_true rfl)) (lv' := [(1, .int (0 : Int32)), (0, .ref h_t)]) rfl ?_
  refine k_iconst C (pc := 2) (v := (0 : Int32)) dX0_allWords_2 rfl ?_
  refine k_istore_n C (pc := 3) dX0_allWords_3 rfl (Nat.lt_of_lt_of_le (Nat.lt_succ_self _) (Nat.le_of_ble_eq_true rfl)) (lv' := [(2, .int (0 : Int32)), (1, .int (0 : Int32)), (0, .ref h_t)]) rfl ?_
  obtain ⟨n_, H⟩ := H
  refine k_lv (pc := 4) [2, 1, 0] (lv' := [(0, .ref h_t), (1, .int (0 : Int32)), (2, .int (0 : Int32))]) rfl ?_
  exact B4  n_ (0 : Int32) (0 : Int32) H
/-! WidowWatch$Book.fixedTo(I)I -/
theorem dX0_fixedTo_0 : decode cX0_fixedTo 0 = .ok (.aload_n 0, 1) := by decide +kernel
theorem dX0_fixedTo_1 : decode cX0_fixedTo 1 = .ok (.getfield 15, 3) := by decide +kernel
theorem dX0_fixedTo_4 : decode cX0_fixedTo 4 = .ok (.iload_n 1, 1) := by decide +kernel
theorem dX0_fixedTo_5 : decode cX0_fixedTo 5 = .ok (.bipush 34, 2) := by decide +kernel
theorem dX0_fixedTo_7 : decode cX0_fixedTo 7 = .ok (.imul, 1) := by decide +kernel
theorem dX0_fixedTo_8 : decode cX0_fixedTo 8 = .ok (.iconst 3, 1) := by decide +kernel
theorem dX0_fixedTo_9 : decode cX0_fixedTo 9 = .ok (.iadd, 1) := by decide +kernel
theorem dX0_fixedTo_10 : decode cX0_fixedTo 10 = .ok (.invokestatic 61, 3) := by decide +kernel
theorem dX0_fixedTo_13 : decode cX0_fixedTo 13 = .ok (.ireturn, 1) := by decide +kernel
theorem okX0_fixedTo : okY yX0_fixedTo 1 := ⟨by decide +kernel, by decide +kernel, by decide +kernel⟩
def wpX0_fixedTo (rows : Nat → Int32) (a1 : Int32) (Post : Int32 → Prop) : Prop := wpX6_get 544 rows ((a1 * (34 : Int32)) + (3 : Int32)) (fun r_1 => Post r_1)
set_option maxHeartbeats 4000000 in
set_option maxRecDepth 100000 in
theorem conX0_fixedTo (l : Launch) (D : va_G) (cA : Nat → ClassId) (h_t h_t_rows : Nat) (u_t_costs : Value) (width : Int32) (height : Int32) (slack : Int32) (limit : Int32) (paragraphs : Int32) (rows : Nat → Int32) (a1 : Int32) (Post : Int32 → Prop) (H : wpX0_fixedTo rows a1 Post) : Con l D cA yX0_fixedTo (wm yX0_fixedTo cX0_fixedTo 2 (some .int)) { frames := 1, cells := 0, slots := 0, locals := 21 } [(h_t, .inr (0, [.int width, .int height, .int slack, .int limit, .int paragraphs, u_t_costs, .ref h_t_rows])), (h_t_rows, .inl (cA 0, 544, .inl rows))] [.ref h_t, .int a1] 0 0 (PI (fun r w1 => w1 = [(h_t, .inr (0, [.int width, .int height, .int slack, .int limit, .int paragraphs, u_t_costs, .ref h_t_rows])), (h_t_rows, .inl (cA 0, 544, .inl rows))] ∧ Post r)) := by
  refine Con.of (by decide) (Nat.le_of_ble_eq_true rfl) ?_
  intro p e s m args below meth c C hr hini
  refine k_eq (ws' := [(h_t, .inr (0, [.int width, .int height, .int slack, .int limit, .int paragraphs, u_t_costs, .ref h_t_rows])), (h_t_rows, .inl (cA 0, 544, .inl rows))]) (lv' := [(0, .ref h_t), (1, .int a1)]) (st' := []) rfl rfl rfl ?_
  refine k_aload_n C 0 (pc := 0) dX0_fixedTo_0 rfl rfl ?_
  refine k_get C (pc := 1) inW_X0 0 6 rfl rfl (Nat.lt_of_lt_of_le (Nat.lt_succ_self _) (Nat.le_of_ble_eq_true rfl)) (ref := "WidowWatch$Book") tW_1_70 rfl rfl dX0_fixedTo_1 ?_
  refine k_iload_n C 1 (pc := 4) dX0_fixedTo_4 rfl rfl ?_
  refine k_bipush C (pc := 5) (v := (34 : Int32)) dX0_fixedTo_5 (by decide) ?_
  refine k_imul C (pc := 7) dX0_fixedTo_7 ?_
  refine k_iconst C (pc := 8) (v := (3 : Int32)) dX0_fixedTo_8 rfl ?_
  refine k_iadd C (pc := 9) dX0_fixedTo_9 ?_
  refine k_calli C (pc := 10) [1] [0] (wc := [(h_t_rows, .inl (cA 0, 544, .inl rows))]) (wr := [(h_t, .inr (0, [.int width, .int height, .int slack, .int limit, .int paragraphs, u_t_costs, .ref h_t_rows]))]) rfl rfl rfl rfl (by decide) (k_runSN C (As := [.ref h_t_rows, .int ((a1 * (34 : Int32)) + (3 : Int32))]) (rest := []) (conX6_get l D cA h_t_rows 544 rows ((a1 * (34 : Int32)) + (3 : Int32))  _ H) ⟨k_cwN C tW_2_46 (k_n6 C) tW_1_1 okX6_get rfl rfl ⟨Nat.le_of_ble_eq_true rfl, Nat.le_of_ble_eq_true rfl⟩, C.w tW_2_45, trivial⟩ rfl rfl (Nat.le_of_ble_eq_true rfl) dX0_fixedTo_10 ⟨Nat.le_of_ble_eq_true rfl, Nat.le_of_ble_eq_true rfl⟩) (fun r_1 w1_ hw_ => ?_)
  obtain ⟨rfl, H⟩ := hw_
  refine k_ws [0, 1] (ws' := [(h_t, .inr (0, [.int width, .int height, .int slack, .int limit, .int paragraphs, u_t_costs, .ref h_t_rows])), (h_t_rows, .inl (cA 0, 544, .inl rows))]) rfl rfl ?_
  exact k_iret C (pc := 13) hr dX0_fixedTo_13 ⟨rfl, H⟩
/-! WidowWatch$Book.allFixed()I -/
theorem dX0_allFixed_0 : decode cX0_allFixed 0 = .ok (.iconst 0, 1) := by decide +kernel
theorem dX0_allFixed_1 : decode cX0_allFixed 1 = .ok (.istore_n 1, 1) := by decide +kernel
theorem dX0_allFixed_2 : decode cX0_allFixed 2 = .ok (.iconst 0, 1) := by decide +kernel
theorem dX0_allFixed_3 : decode cX0_allFixed 3 = .ok (.istore_n 2, 1) := by decide +kernel
theorem dX0_allFixed_4 : decode cX0_allFixed 4 = .ok (.iload_n 2, 1) := by decide +kernel
theorem dX0_allFixed_5 : decode cX0_allFixed 5 = .ok (.aload_n 0, 1) := by decide +kernel
theorem dX0_allFixed_6 : decode cX0_allFixed 6 = .ok (.getfield 34, 3) := by decide +kernel
theorem dX0_allFixed_9 : decode cX0_allFixed 9 = .ok (.if_icmp .ge 26, 3) := by decide +kernel
theorem dX0_allFixed_12 : decode cX0_allFixed 12 = .ok (.iload_n 1, 1) := by decide +kernel
theorem dX0_allFixed_13 : decode cX0_allFixed 13 = .ok (.aload_n 0, 1) := by decide +kernel
theorem dX0_allFixed_14 : decode cX0_allFixed 14 = .ok (.iload_n 2, 1) := by decide +kernel
theorem dX0_allFixed_15 : decode cX0_allFixed 15 = .ok (.invokevirtual 58, 3) := by decide +kernel
theorem dX0_allFixed_18 : decode cX0_allFixed 18 = .ok (.iconst (-1), 1) := by decide +kernel
theorem dX0_allFixed_19 : decode cX0_allFixed 19 = .ok (.if_icmp .ne 7, 3) := by decide +kernel
theorem dX0_allFixed_22 : decode cX0_allFixed 22 = .ok (.iconst 0, 1) := by decide +kernel
theorem dX0_allFixed_23 : decode cX0_allFixed 23 = .ok (.goto 4, 3) := by decide +kernel
theorem dX0_allFixed_26 : decode cX0_allFixed 26 = .ok (.iconst 1, 1) := by decide +kernel
theorem dX0_allFixed_27 : decode cX0_allFixed 27 = .ok (.iadd, 1) := by decide +kernel
theorem dX0_allFixed_28 : decode cX0_allFixed 28 = .ok (.istore_n 1, 1) := by decide +kernel
theorem dX0_allFixed_29 : decode cX0_allFixed 29 = .ok (.iinc 2 1, 3) := by decide +kernel
theorem dX0_allFixed_32 : decode cX0_allFixed 32 = .ok (.goto (-28), 3) := by decide +kernel
theorem dX0_allFixed_35 : decode cX0_allFixed 35 = .ok (.iload_n 1, 1) := by decide +kernel
theorem dX0_allFixed_36 : decode cX0_allFixed 36 = .ok (.ireturn, 1) := by decide +kernel
theorem okX0_allFixed : okY yX0_allFixed 0 := ⟨by decide +kernel, by decide +kernel, by decide +kernel⟩
def wpX0_allFixed_b27 (paragraphs : Int32) (rows : Nat → Int32) (Post : Int32 → Prop) (K4 : Int32 → Int32 → Prop) (x2 : Int32) (s0 : Int32) (s1 : Int32) : Prop := K4 (s0 + s1) (x2 + (1 : Int32))
def wpX0_allFixed_L4 (paragraphs : Int32) (rows : Nat → Int32) (Post : Int32 → Prop)  : Nat → Int32 → Int32 → Prop
  | 0 => fun _ _ => False
  | n4 + 1 => fun x1 x2 => (paragraphs ≤ x2 → Post x1) ∧ (¬ paragraphs ≤ x2 → wpX0_fixedTo rows x2 (fun r_1 => (¬ r_1 = (-1 : Int32) → wpX0_allFixed_b27 paragraphs rows Post (wpX0_allFixed_L4 paragraphs rows Post  n4) x2 x1 (1 : Int32)) ∧ (r_1 = (-1 : Int32) → wpX0_allFixed_b27 paragraphs rows Post (wpX0_allFixed_L4 paragraphs rows Post  n4) x2 x1 (0 : Int32))))
def wpX0_allFixed (paragraphs : Int32) (rows : Nat → Int32) (Post : Int32 → Prop) : Prop := ∃ m_, wpX0_allFixed_L4 paragraphs rows Post  m_ (0 : Int32) (0 : Int32)
set_option maxHeartbeats 4000000 in
set_option maxRecDepth 100000 in
theorem conX0_allFixed (l : Launch) (D : va_G) (cA : Nat → ClassId) (h_t h_t_rows : Nat) (u_t_costs : Value) (width : Int32) (height : Int32) (slack : Int32) (limit : Int32) (paragraphs : Int32) (rows : Nat → Int32) (Post : Int32 → Prop) (H : wpX0_allFixed paragraphs rows Post) : Con l D cA yX0_allFixed (wm yX0_allFixed cX0_allFixed 3 (some .int)) { frames := 2, cells := 0, slots := 0, locals := 42 } [(h_t, .inr (0, [.int width, .int height, .int slack, .int limit, .int paragraphs, u_t_costs, .ref h_t_rows])), (h_t_rows, .inl (cA 0, 544, .inl rows))] [.ref h_t] 0 0 (PI (fun r w1 => w1 = [(h_t, .inr (0, [.int width, .int height, .int slack, .int limit, .int paragraphs, u_t_costs, .ref h_t_rows])), (h_t_rows, .inl (cA 0, 544, .inl rows))] ∧ Post r)) := by
  refine Con.of (by decide) (Nat.le_of_ble_eq_true rfl) ?_
  intro p e s m args below meth c C hr hini
  have B27 : ∀ (K4 : Int32 → Int32 → Prop) (hK4 : ∀ (x1 : Int32) (x2 : Int32), K4 x1 x2 → Kf p l e { frames := 2, cells := 0, slots := 0, locals := 42 } s m args below meth c D (va_A [(h_t, .inr (0, [.int width, .int height, .int slack, .int limit, .int paragraphs, u_t_costs, .ref h_t_rows])), (h_t_rows, .inl (cA 0, 544, .inl rows))] s.heap.size) 3 0 0 (MQ below (QC D [(h_t, .inr (0, [.int width, .int height, .int slack, .int limit, .int paragraphs, u_t_costs, .ref h_t_rows])), (h_t_rows, .inl (cA 0, 544, .inl rows))] s.heap.size (PI (fun r w1 => w1 = [(h_t, .inr (0, [.int width, .int height, .int slack, .int limit, .int paragraphs, u_t_costs, .ref h_t_rows])), (h_t_rows, .inl (cA 0, 544, .inl rows))] ∧ Post r))) args s 0 0 (va_A [(h_t, .inr (0, [.int width, .int height, .int slack, .int limit, .int paragraphs, u_t_costs, .ref h_t_rows])), (h_t_rows, .inl (cA 0, 544, .inl rows))] s.heap.size)) [(h_t, .inr (0, [.int width, .int height, .int slack, .int limit, .int paragraphs, u_t_costs, .ref h_t_rows])), (h_t_rows, .inl (cA 0, 544, .inl rows))] 4 [(0, .ref h_t), (1, .int x1), (2, .int x2)] []) (x2 : Int32) (s0 : Int32) (s1 : Int32), wpX0_allFixed_b27 paragraphs rows Post K4 x2 s0 s1 → Kf p l e { frames := 2, cells := 0, slots := 0, locals := 42 } s m args below meth c D (va_A [(h_t, .inr (0, [.int width, .int height, .int slack, .int limit, .int paragraphs, u_t_costs, .ref h_t_rows])), (h_t_rows, .inl (cA 0, 544, .inl rows))] s.heap.size) 3 0 0 (MQ below (QC D [(h_t, .inr (0, [.int width, .int height, .int slack, .int limit, .int paragraphs, u_t_costs, .ref h_t_rows])), (h_t_rows, .inl (cA 0, 544, .inl rows))] s.heap.size (PI (fun r w1 => w1 = [(h_t, .inr (0, [.int width, .int height, .int slack, .int limit, .int paragraphs, u_t_costs, .ref h_t_rows])), (h_t_rows, .inl (cA 0, 544, .inl rows))] ∧ Post r))) args s 0 0 (va_A [(h_t, .inr (0, [.int width, .int height, .int slack, .int limit, .int paragraphs, u_t_costs, .ref h_t_rows])), (h_t_rows, .inl (cA 0, 544, .inl rows))] s.heap.size)) [(h_t, .inr (0, [.int width, .int height, .int slack, .int limit, .int paragraphs, u_t_costs, .ref h_t_rows])), (h_t_rows, .inl (cA 0, 544, .inl rows))] 27 [(0, .ref h_t), (2, .int x2)] [.int s1, .int s0] := by
    intro K4 hK4 x2 s0 s1 H
    refine k_iadd C (pc := 27) dX0_allFixed_27 ?_
    refine k_istore_n C (pc := 28) dX0_allFixed_28 rfl (Nat.lt_of_lt_of_le (Nat.lt_succ_self _) (Nat.le_of_ble_eq_true rfl)) (lv' := [(1, .int (s0 + s1)), (0, .ref h_t), (2, .int x2)]) rfl ?_
    refine k_iinc C (pc := 29) (k := 2) (v := x2 + (1 : Int32)) dX0_allFixed_29 rfl rfl (Nat.lt_of_lt_of_le (Nat.lt_succ_self _) (Nat.le_of_ble_eq_true rfl)) (lv' := [(2, .int (x2 + (1 : Int32))), (1, .int (s0 + s1)), (0, .ref h_t)]) rfl ?_
    refine k_goto C (pc := 32) (tgt := 4) dX0_allFixed_32 (by decide) ?_
    refine k_lv (pc := 4) [2, 1, 0] (lv' := [(0, .ref h_t), (1, .int (s0 + s1)), (2, .int (x2 + (1 : Int32)))]) rfl ?_
    exact hK4 (s0 + s1) (x2 + (1 : Int32)) H
  have B4 : ∀  (n : Nat) (x1 : Int32) (x2 : Int32), wpX0_allFixed_L4 paragraphs rows Post  n x1 x2 → Kf p l e { frames := 2, cells := 0, slots := 0, locals := 42 } s m args below meth c D (va_A [(h_t, .inr (0, [.int width, .int height, .int slack, .int limit, .int paragraphs, u_t_costs, .ref h_t_rows])), (h_t_rows, .inl (cA 0, 544, .inl rows))] s.heap.size) 3 0 0 (MQ below (QC D [(h_t, .inr (0, [.int width, .int height, .int slack, .int limit, .int paragraphs, u_t_costs, .ref h_t_rows])), (h_t_rows, .inl (cA 0, 544, .inl rows))] s.heap.size (PI (fun r w1 => w1 = [(h_t, .inr (0, [.int width, .int height, .int slack, .int limit, .int paragraphs, u_t_costs, .ref h_t_rows])), (h_t_rows, .inl (cA 0, 544, .inl rows))] ∧ Post r))) args s 0 0 (va_A [(h_t, .inr (0, [.int width, .int height, .int slack, .int limit, .int paragraphs, u_t_costs, .ref h_t_rows])), (h_t_rows, .inl (cA 0, 544, .inl rows))] s.heap.size)) [(h_t, .inr (0, [.int width, .int height, .int slack, .int limit, .int paragraphs, u_t_costs, .ref h_t_rows])), (h_t_rows, .inl (cA 0, 544, .inl rows))] 4 [(0, .ref h_t), (1, .int x1), (2, .int x2)] [] := by
    intro  n
    induction n with
    | zero =>
      intro x1 x2 H
      exact H.elim
    | succ n4 ih4 =>
      intro x1 x2 H
      refine k_iload_n C 2 (pc := 4) dX0_allFixed_4 rfl rfl ?_
      refine k_aload_n C 0 (pc := 5) dX0_allFixed_5 rfl rfl ?_
      refine k_get C (pc := 6) inW_X0 0 4 rfl rfl (Nat.lt_of_lt_of_le (Nat.lt_succ_self _) (Nat.le_of_ble_eq_true rfl)) (ref := "WidowWatch$Book") tW_1_65 rfl rfl dX0_allFixed_6 ?_
      refine k_icmp_ge C (pc := 9) (tgt := 35) dX0_allFixed_9 (by decide) (fun c_9 => ?_) (fun c_9 => ?_)
      · have H := H.1 c_9
        refine k_iload_n C 1 (pc := 35) dX0_allFixed_35 rfl rfl ?_
        exact k_iret C (pc := 36) hr dX0_allFixed_36 ⟨rfl, H⟩
      · have H := H.2 c_9
        refine k_iload_n C 1 (pc := 12) dX0_allFixed_12 rfl rfl ?_
        refine k_aload_n C 0 (pc := 13) dX0_allFixed_13 rfl rfl ?_
        refine k_iload_n C 2 (pc := 14) dX0_allFixed_14 rfl rfl ?_
        refine k_calli C (pc := 15) [0, 1] [] (wc := [(h_t, .inr (0, [.int width, .int height, .int slack, .int limit, .int paragraphs, u_t_costs, .ref h_t_rows])), (h_t_rows, .inl (cA 0, 544, .inl rows))]) (wr := []) rfl rfl rfl rfl (by decide) (k_runV C (As := [.int x2]) (rest := [.int x1]) (ci := 0) (q0 := 0) (conX0_fixedTo l D cA h_t h_t_rows u_t_costs width height slack limit paragraphs rows x2  _ H) ⟨k_cwB C tW_4_10 tW_6_62 tW_1_2 okX0_fixedTo rfl rfl ⟨Nat.le_of_ble_eq_true rfl, Nat.le_of_ble_eq_true rfl⟩, C.w tW_4_8, C.w tW_4_9⟩ rfl rfl rfl rfl rfl (Nat.le_of_ble_eq_true rfl) dX0_allFixed_15 ⟨Nat.le_of_ble_eq_true rfl, Nat.le_of_ble_eq_true rfl⟩) (fun r_1 w1_ hw_ => ?_)
        obtain ⟨rfl, H⟩ := hw_
        refine k_ws [0, 1] (ws' := [(h_t, .inr (0, [.int width, .int height, .int slack, .int limit, .int paragraphs, u_t_costs, .ref h_t_rows])), (h_t_rows, .inl (cA 0, 544, .inl rows))]) rfl rfl ?_
        refine k_iconst C (pc := 18) (v := (-1 : Int32)) dX0_allFixed_18 rfl ?_
        refine k_icmp_ne C (pc := 19) (tgt := 26) dX0_allFixed_19 (by decide) (fun c_19 => ?_) (fun c_19 => ?_)
        · have H := H.1 c_19
          refine k_iconst C (pc := 26) (v := (1 : Int32)) dX0_allFixed_26 rfl ?_
          refine k_lv (pc := 27) [0, 2] (lv' := [(0, .ref h_t), (2, .int x2)]) rfl ?_
          exact B27 (wpX0_allFixed_L4 paragraphs rows Post  n4) ih4 x2 x1 (1 : Int32) H
        · have H := H.2 c_19
          refine k_iconst C (pc := 22) (v := (0 : Int32)) dX0_allFixed_22 rfl ?_
          refine k_goto C (pc := 23) (tgt := 27) dX0_allFixed_23 (by decide) ?_
          refine k_lv (pc := 27) [0, 2] (lv' := [(0, .ref h_t), (2, .int x2)]) rfl ?_
          exact B27 (wpX0_allFixed_L4 paragraphs rows Post  n4) ih4 x2 x1 (0 : Int32) H
  refine k_eq (ws' := [(h_t, .inr (0, [.int width, .int height, .int slack, .int limit, .int paragraphs, u_t_costs, .ref h_t_rows])), (h_t_rows, .inl (cA 0, 544, .inl rows))]) (lv' := [(0, .ref h_t)]) (st' := []) rfl rfl rfl ?_
  refine k_iconst C (pc := 0) (v := (0 : Int32)) dX0_allFixed_0 rfl ?_
  refine k_istore_n C (pc := 1) dX0_allFixed_1 rfl (Nat.lt_of_lt_of_le (Nat.lt_succ_self _) (Nat.le_of_ble_eq_true rfl)) (lv' := [(1, .int (0 : Int32)), (0, .ref h_t)]) rfl ?_
  refine k_iconst C (pc := 2) (v := (0 : Int32)) dX0_allFixed_2 rfl ?_
  refine k_istore_n C (pc := 3) dX0_allFixed_3 rfl (Nat.lt_of_lt_of_le (Nat.lt_succ_self _) (Nat.le_of_ble_eq_true rfl)) (lv' := [(2, .int (0 : Int32)), (1, .int (0 : Int32)), (0, .ref h_t)]) rfl ?_
  obtain ⟨n_, H⟩ := H
  refine k_lv (pc := 4) [2, 1, 0] (lv' := [(0, .ref h_t), (1, .int (0 : Int32)), (2, .int (0 : Int32))]) rfl ?_
  exact B4  n_ (0 : Int32) (0 : Int32) H
/-! WidowWatch$Book.costOf(I)I -/
theorem dX0_costOf_0 : decode cX0_costOf 0 = .ok (.aload_n 0, 1) := by decide +kernel
theorem dX0_costOf_1 : decode cX0_costOf 1 = .ok (.getfield 11, 3) := by decide +kernel
theorem dX0_costOf_4 : decode cX0_costOf 4 = .ok (.iload_n 1, 1) := by decide +kernel
theorem dX0_costOf_5 : decode cX0_costOf 5 = .ok (.invokestatic 61, 3) := by decide +kernel
theorem dX0_costOf_8 : decode cX0_costOf 8 = .ok (.ireturn, 1) := by decide +kernel
theorem okX0_costOf : okY yX0_costOf 1 := ⟨by decide +kernel, by decide +kernel, by decide +kernel⟩
def wpX0_costOf (costs : Nat → Int32) (a1 : Int32) (Post : Int32 → Prop) : Prop := wpX6_get 6 costs a1 (fun r_1 => Post r_1)
set_option maxHeartbeats 4000000 in
set_option maxRecDepth 100000 in
theorem conX0_costOf (l : Launch) (D : va_G) (cA : Nat → ClassId) (h_t h_t_costs : Nat) (u_t_rows : Value) (width : Int32) (height : Int32) (slack : Int32) (limit : Int32) (paragraphs : Int32) (costs : Nat → Int32) (a1 : Int32) (Post : Int32 → Prop) (H : wpX0_costOf costs a1 Post) : Con l D cA yX0_costOf (wm yX0_costOf cX0_costOf 2 (some .int)) { frames := 1, cells := 0, slots := 0, locals := 21 } [(h_t, .inr (0, [.int width, .int height, .int slack, .int limit, .int paragraphs, .ref h_t_costs, u_t_rows])), (h_t_costs, .inl (cA 0, 6, .inl costs))] [.ref h_t, .int a1] 0 0 (PI (fun r w1 => w1 = [(h_t, .inr (0, [.int width, .int height, .int slack, .int limit, .int paragraphs, .ref h_t_costs, u_t_rows])), (h_t_costs, .inl (cA 0, 6, .inl costs))] ∧ Post r)) := by
  refine Con.of (by decide) (Nat.le_of_ble_eq_true rfl) ?_
  intro p e s m args below meth c C hr hini
  refine k_eq (ws' := [(h_t, .inr (0, [.int width, .int height, .int slack, .int limit, .int paragraphs, .ref h_t_costs, u_t_rows])), (h_t_costs, .inl (cA 0, 6, .inl costs))]) (lv' := [(0, .ref h_t), (1, .int a1)]) (st' := []) rfl rfl rfl ?_
  refine k_aload_n C 0 (pc := 0) dX0_costOf_0 rfl rfl ?_
  refine k_get C (pc := 1) inW_X0 0 5 rfl rfl (Nat.lt_of_lt_of_le (Nat.lt_succ_self _) (Nat.le_of_ble_eq_true rfl)) (ref := "WidowWatch$Book") tW_1_69 rfl rfl dX0_costOf_1 ?_
  refine k_iload_n C 1 (pc := 4) dX0_costOf_4 rfl rfl ?_
  refine k_calli C (pc := 5) [1] [0] (wc := [(h_t_costs, .inl (cA 0, 6, .inl costs))]) (wr := [(h_t, .inr (0, [.int width, .int height, .int slack, .int limit, .int paragraphs, .ref h_t_costs, u_t_rows]))]) rfl rfl rfl rfl (by decide) (k_runSN C (As := [.ref h_t_costs, .int a1]) (rest := []) (conX6_get l D cA h_t_costs 6 costs a1  _ H) ⟨k_cwN C tW_2_46 (k_n6 C) tW_1_1 okX6_get rfl rfl ⟨Nat.le_of_ble_eq_true rfl, Nat.le_of_ble_eq_true rfl⟩, C.w tW_2_45, trivial⟩ rfl rfl (Nat.le_of_ble_eq_true rfl) dX0_costOf_5 ⟨Nat.le_of_ble_eq_true rfl, Nat.le_of_ble_eq_true rfl⟩) (fun r_1 w1_ hw_ => ?_)
  obtain ⟨rfl, H⟩ := hw_
  refine k_ws [0, 1] (ws' := [(h_t, .inr (0, [.int width, .int height, .int slack, .int limit, .int paragraphs, .ref h_t_costs, u_t_rows])), (h_t_costs, .inl (cA 0, 6, .inl costs))]) rfl rfl ?_
  exact k_iret C (pc := 8) hr dX0_costOf_8 ⟨rfl, H⟩
/-! WidowWatch$Book.setCostOf(II)V -/
theorem dX0_setCostOf_0 : decode cX0_setCostOf 0 = .ok (.aload_n 0, 1) := by decide +kernel
theorem dX0_setCostOf_1 : decode cX0_setCostOf 1 = .ok (.getfield 11, 3) := by decide +kernel
theorem dX0_setCostOf_4 : decode cX0_setCostOf 4 = .ok (.iload_n 1, 1) := by decide +kernel
theorem dX0_setCostOf_5 : decode cX0_setCostOf 5 = .ok (.iload_n 2, 1) := by decide +kernel
theorem dX0_setCostOf_6 : decode cX0_setCostOf 6 = .ok (.invokestatic 65, 3) := by decide +kernel
theorem dX0_setCostOf_9 : decode cX0_setCostOf 9 = .ok (.return_, 1) := by decide +kernel
theorem okX0_setCostOf : okY yX0_setCostOf 2 := ⟨by decide +kernel, by decide +kernel, by decide +kernel⟩
def wpX0_setCostOf (costs : Nat → Int32) (a1 : Int32) (a2 : Int32) (Post : (Nat → Int32) → Prop) : Prop := wpX6_put 6 costs a1 a2 (fun costs_1 => Post costs_1)
set_option maxHeartbeats 4000000 in
set_option maxRecDepth 100000 in
theorem conX0_setCostOf (l : Launch) (D : va_G) (cA : Nat → ClassId) (h_t h_t_costs : Nat) (u_t_rows : Value) (width : Int32) (height : Int32) (slack : Int32) (limit : Int32) (paragraphs : Int32) (costs : Nat → Int32) (a1 : Int32) (a2 : Int32) (Post : (Nat → Int32) → Prop) (H : wpX0_setCostOf costs a1 a2 Post) : Con l D cA yX0_setCostOf (wm yX0_setCostOf cX0_setCostOf 3 none) { frames := 1, cells := 0, slots := 0, locals := 22 } [(h_t, .inr (0, [.int width, .int height, .int slack, .int limit, .int paragraphs, .ref h_t_costs, u_t_rows])), (h_t_costs, .inl (cA 0, 6, .inl costs))] [.ref h_t, .int a1, .int a2] 0 0 (PV (fun w1 => ∃ (costs' : Nat → Int32), w1 = [(h_t, .inr (0, [.int width, .int height, .int slack, .int limit, .int paragraphs, .ref h_t_costs, u_t_rows])), (h_t_costs, .inl (cA 0, 6, .inl (costs')))] ∧ Post costs')) := by
  refine Con.of (by decide) (Nat.le_of_ble_eq_true rfl) ?_
  intro p e s m args below meth c C hr hini
  refine k_eq (ws' := [(h_t, .inr (0, [.int width, .int height, .int slack, .int limit, .int paragraphs, .ref h_t_costs, u_t_rows])), (h_t_costs, .inl (cA 0, 6, .inl costs))]) (lv' := [(0, .ref h_t), (1, .int a1), (2, .int a2)]) (st' := []) rfl rfl rfl ?_
  refine k_aload_n C 0 (pc := 0) dX0_setCostOf_0 rfl rfl ?_
  refine k_get C (pc := 1) inW_X0 0 5 rfl rfl (Nat.lt_of_lt_of_le (Nat.lt_succ_self _) (Nat.le_of_ble_eq_true rfl)) (ref := "WidowWatch$Book") tW_1_69 rfl rfl dX0_setCostOf_1 ?_
  refine k_iload_n C 1 (pc := 4) dX0_setCostOf_4 rfl rfl ?_
  refine k_iload_n C 2 (pc := 5) dX0_setCostOf_5 rfl rfl ?_
  refine k_callv C (pc := 6) [1] [0] (wc := [(h_t_costs, .inl (cA 0, 6, .inl costs))]) (wr := [(h_t, .inr (0, [.int width, .int height, .int slack, .int limit, .int paragraphs, .ref h_t_costs, u_t_rows]))]) rfl rfl rfl rfl (by decide) (k_runSN C (As := [.ref h_t_costs, .int a1, .int a2]) (rest := []) (conX6_put l D cA h_t_costs 6 costs a1 a2  _ H) ⟨k_cwN C tW_2_53 (k_n13 C) tW_1_1 okX6_put rfl rfl ⟨Nat.le_of_ble_eq_true rfl, Nat.le_of_ble_eq_true rfl⟩, C.w tW_2_52, trivial⟩ rfl rfl (Nat.le_of_ble_eq_true rfl) dX0_setCostOf_6 ⟨Nat.le_of_ble_eq_true rfl, Nat.le_of_ble_eq_true rfl⟩) (fun w1_ hw_ => ?_)
  obtain ⟨costs_1, rfl, H⟩ := hw_
  refine k_ws [0, 1] (ws' := [(h_t, .inr (0, [.int width, .int height, .int slack, .int limit, .int paragraphs, .ref h_t_costs, u_t_rows])), (h_t_costs, .inl (cA 0, 6, .inl costs_1))]) rfl rfl ?_
  exact k_vret C (pc := 9) hr dX0_setCostOf_9 ⟨_, rfl, H⟩
/-! WidowWatch$Book.setWord(III)V -/
theorem dX0_setWord_0 : decode cX0_setWord 0 = .ok (.aload_n 0, 1) := by decide +kernel
theorem dX0_setWord_1 : decode cX0_setWord 1 = .ok (.getfield 15, 3) := by decide +kernel
theorem dX0_setWord_4 : decode cX0_setWord 4 = .ok (.iload_n 1, 1) := by decide +kernel
theorem dX0_setWord_5 : decode cX0_setWord 5 = .ok (.bipush 34, 2) := by decide +kernel
theorem dX0_setWord_7 : decode cX0_setWord 7 = .ok (.imul, 1) := by decide +kernel
theorem dX0_setWord_8 : decode cX0_setWord 8 = .ok (.iconst 4, 1) := by decide +kernel
theorem dX0_setWord_9 : decode cX0_setWord 9 = .ok (.iadd, 1) := by decide +kernel
theorem dX0_setWord_10 : decode cX0_setWord 10 = .ok (.iload_n 2, 1) := by decide +kernel
theorem dX0_setWord_11 : decode cX0_setWord 11 = .ok (.iadd, 1) := by decide +kernel
theorem dX0_setWord_12 : decode cX0_setWord 12 = .ok (.iload_n 3, 1) := by decide +kernel
theorem dX0_setWord_13 : decode cX0_setWord 13 = .ok (.invokestatic 65, 3) := by decide +kernel
theorem dX0_setWord_16 : decode cX0_setWord 16 = .ok (.return_, 1) := by decide +kernel
theorem okX0_setWord : okY yX0_setWord 3 := ⟨by decide +kernel, by decide +kernel, by decide +kernel⟩
def wpX0_setWord (rows : Nat → Int32) (a1 : Int32) (a2 : Int32) (a3 : Int32) (Post : (Nat → Int32) → Prop) : Prop := wpX6_put 544 rows (((a1 * (34 : Int32)) + (4 : Int32)) + a2) a3 (fun rows_1 => Post rows_1)
set_option maxHeartbeats 4000000 in
set_option maxRecDepth 100000 in
theorem conX0_setWord (l : Launch) (D : va_G) (cA : Nat → ClassId) (h_t h_t_rows : Nat) (u_t_costs : Value) (width : Int32) (height : Int32) (slack : Int32) (limit : Int32) (paragraphs : Int32) (rows : Nat → Int32) (a1 : Int32) (a2 : Int32) (a3 : Int32) (Post : (Nat → Int32) → Prop) (H : wpX0_setWord rows a1 a2 a3 Post) : Con l D cA yX0_setWord (wm yX0_setWord cX0_setWord 4 none) { frames := 1, cells := 0, slots := 0, locals := 22 } [(h_t, .inr (0, [.int width, .int height, .int slack, .int limit, .int paragraphs, u_t_costs, .ref h_t_rows])), (h_t_rows, .inl (cA 0, 544, .inl rows))] [.ref h_t, .int a1, .int a2, .int a3] 0 0 (PV (fun w1 => ∃ (rows' : Nat → Int32), w1 = [(h_t, .inr (0, [.int width, .int height, .int slack, .int limit, .int paragraphs, u_t_costs, .ref h_t_rows])), (h_t_rows, .inl (cA 0, 544, .inl (rows')))] ∧ Post rows')) := by
  refine Con.of (by decide) (Nat.le_of_ble_eq_true rfl) ?_
  intro p e s m args below meth c C hr hini
  refine k_eq (ws' := [(h_t, .inr (0, [.int width, .int height, .int slack, .int limit, .int paragraphs, u_t_costs, .ref h_t_rows])), (h_t_rows, .inl (cA 0, 544, .inl rows))]) (lv' := [(0, .ref h_t), (1, .int a1), (2, .int a2), (3, .int a3)]) (st' := []) rfl rfl rfl ?_
  refine k_aload_n C 0 (pc := 0) dX0_setWord_0 rfl rfl ?_
  refine k_get C (pc := 1) inW_X0 0 6 rfl rfl (Nat.lt_of_lt_of_le (Nat.lt_succ_self _) (Nat.le_of_ble_eq_true rfl)) (ref := "WidowWatch$Book") tW_1_70 rfl rfl dX0_setWord_1 ?_
  refine k_iload_n C 1 (pc := 4) dX0_setWord_4 rfl rfl ?_
  refine k_bipush C (pc := 5) (v := (34 : Int32)) dX0_setWord_5 (by decide) ?_
  refine k_imul C (pc := 7) dX0_setWord_7 ?_
  refine k_iconst C (pc := 8) (v := (4 : Int32)) dX0_setWord_8 rfl ?_
  refine k_iadd C (pc := 9) dX0_setWord_9 ?_
  refine k_iload_n C 2 (pc := 10) dX0_setWord_10 rfl rfl ?_
  refine k_iadd C (pc := 11) dX0_setWord_11 ?_
  refine k_iload_n C 3 (pc := 12) dX0_setWord_12 rfl rfl ?_
  refine k_callv C (pc := 13) [1] [0] (wc := [(h_t_rows, .inl (cA 0, 544, .inl rows))]) (wr := [(h_t, .inr (0, [.int width, .int height, .int slack, .int limit, .int paragraphs, u_t_costs, .ref h_t_rows]))]) rfl rfl rfl rfl (by decide) (k_runSN C (As := [.ref h_t_rows, .int (((a1 * (34 : Int32)) + (4 : Int32)) + a2), .int a3]) (rest := []) (conX6_put l D cA h_t_rows 544 rows (((a1 * (34 : Int32)) + (4 : Int32)) + a2) a3  _ H) ⟨k_cwN C tW_2_53 (k_n13 C) tW_1_1 okX6_put rfl rfl ⟨Nat.le_of_ble_eq_true rfl, Nat.le_of_ble_eq_true rfl⟩, C.w tW_2_52, trivial⟩ rfl rfl (Nat.le_of_ble_eq_true rfl) dX0_setWord_13 ⟨Nat.le_of_ble_eq_true rfl, Nat.le_of_ble_eq_true rfl⟩) (fun w1_ hw_ => ?_)
  obtain ⟨rows_1, rfl, H⟩ := hw_
  refine k_ws [0, 1] (ws' := [(h_t, .inr (0, [.int width, .int height, .int slack, .int limit, .int paragraphs, u_t_costs, .ref h_t_rows])), (h_t_rows, .inl (cA 0, 544, .inl rows_1))]) rfl rfl ?_
  exact k_vret C (pc := 16) hr dX0_setWord_16 ⟨_, rfl, H⟩
/-! WidowWatch$Book.addWord(II)V -/
theorem dX0_addWord_0 : decode cX0_addWord 0 = .ok (.aload_n 0, 1) := by decide +kernel
theorem dX0_addWord_1 : decode cX0_addWord 1 = .ok (.iload_n 1, 1) := by decide +kernel
theorem dX0_addWord_2 : decode cX0_addWord 2 = .ok (.invokevirtual 55, 3) := by decide +kernel
theorem dX0_addWord_5 : decode cX0_addWord 5 = .ok (.istore_n 3, 1) := by decide +kernel
theorem dX0_addWord_6 : decode cX0_addWord 6 = .ok (.aload_n 0, 1) := by decide +kernel
theorem dX0_addWord_7 : decode cX0_addWord 7 = .ok (.iload_n 1, 1) := by decide +kernel
theorem dX0_addWord_8 : decode cX0_addWord 8 = .ok (.iload_n 3, 1) := by decide +kernel
theorem dX0_addWord_9 : decode cX0_addWord 9 = .ok (.iload_n 2, 1) := by decide +kernel
theorem dX0_addWord_10 : decode cX0_addWord 10 = .ok (.invokevirtual 69, 3) := by decide +kernel
theorem dX0_addWord_13 : decode cX0_addWord 13 = .ok (.aload_n 0, 1) := by decide +kernel
theorem dX0_addWord_14 : decode cX0_addWord 14 = .ok (.getfield 15, 3) := by decide +kernel
theorem dX0_addWord_17 : decode cX0_addWord 17 = .ok (.iload_n 1, 1) := by decide +kernel
theorem dX0_addWord_18 : decode cX0_addWord 18 = .ok (.bipush 34, 2) := by decide +kernel
theorem dX0_addWord_20 : decode cX0_addWord 20 = .ok (.imul, 1) := by decide +kernel
theorem dX0_addWord_21 : decode cX0_addWord 21 = .ok (.iconst 0, 1) := by decide +kernel
theorem dX0_addWord_22 : decode cX0_addWord 22 = .ok (.iadd, 1) := by decide +kernel
theorem dX0_addWord_23 : decode cX0_addWord 23 = .ok (.iload_n 3, 1) := by decide +kernel
theorem dX0_addWord_24 : decode cX0_addWord 24 = .ok (.iconst 1, 1) := by decide +kernel
theorem dX0_addWord_25 : decode cX0_addWord 25 = .ok (.iadd, 1) := by decide +kernel
theorem dX0_addWord_26 : decode cX0_addWord 26 = .ok (.invokestatic 65, 3) := by decide +kernel
theorem dX0_addWord_29 : decode cX0_addWord 29 = .ok (.return_, 1) := by decide +kernel
theorem okX0_addWord : okY yX0_addWord 2 := ⟨by decide +kernel, by decide +kernel, by decide +kernel⟩
def wpX0_addWord (rows : Nat → Int32) (a1 : Int32) (a2 : Int32) (Post : (Nat → Int32) → Prop) : Prop := wpX0_wordsOf rows a1 (fun r_1 => wpX0_setWord rows a1 r_1 a2 (fun rows_2 => wpX6_put 544 rows_2 ((a1 * (34 : Int32)) + (0 : Int32)) (r_1 + (1 : Int32)) (fun rows_3 => Post rows_3)))
set_option maxHeartbeats 4000000 in
set_option maxRecDepth 100000 in
theorem conX0_addWord (l : Launch) (D : va_G) (cA : Nat → ClassId) (h_t h_t_rows : Nat) (u_t_costs : Value) (width : Int32) (height : Int32) (slack : Int32) (limit : Int32) (paragraphs : Int32) (rows : Nat → Int32) (a1 : Int32) (a2 : Int32) (Post : (Nat → Int32) → Prop) (H : wpX0_addWord rows a1 a2 Post) : Con l D cA yX0_addWord (wm yX0_addWord cX0_addWord 4 none) { frames := 2, cells := 0, slots := 0, locals := 45 } [(h_t, .inr (0, [.int width, .int height, .int slack, .int limit, .int paragraphs, u_t_costs, .ref h_t_rows])), (h_t_rows, .inl (cA 0, 544, .inl rows))] [.ref h_t, .int a1, .int a2] 0 0 (PV (fun w1 => ∃ (rows' : Nat → Int32), w1 = [(h_t, .inr (0, [.int width, .int height, .int slack, .int limit, .int paragraphs, u_t_costs, .ref h_t_rows])), (h_t_rows, .inl (cA 0, 544, .inl (rows')))] ∧ Post rows')) := by
  refine Con.of (by decide) (Nat.le_of_ble_eq_true rfl) ?_
  intro p e s m args below meth c C hr hini
  refine k_eq (ws' := [(h_t, .inr (0, [.int width, .int height, .int slack, .int limit, .int paragraphs, u_t_costs, .ref h_t_rows])), (h_t_rows, .inl (cA 0, 544, .inl rows))]) (lv' := [(0, .ref h_t), (1, .int a1), (2, .int a2)]) (st' := []) rfl rfl rfl ?_
  refine k_aload_n C 0 (pc := 0) dX0_addWord_0 rfl rfl ?_
  refine k_iload_n C 1 (pc := 1) dX0_addWord_1 rfl rfl ?_
  refine k_calli C (pc := 2) [0, 1] [] (wc := [(h_t, .inr (0, [.int width, .int height, .int slack, .int limit, .int paragraphs, u_t_costs, .ref h_t_rows])), (h_t_rows, .inl (cA 0, 544, .inl rows))]) (wr := []) rfl rfl rfl rfl (by decide) (k_runV C (As := [.int a1]) (rest := []) (ci := 0) (q0 := 0) (conX0_wordsOf l D cA h_t h_t_rows u_t_costs width height slack limit paragraphs rows a1  _ H) ⟨k_cwB C tW_2_43 tW_3_143 tW_1_2 okX0_wordsOf rfl rfl ⟨Nat.le_of_ble_eq_true rfl, Nat.le_of_ble_eq_true rfl⟩, C.w tW_2_41, C.w tW_2_42⟩ rfl rfl rfl rfl rfl (Nat.le_of_ble_eq_true rfl) dX0_addWord_2 ⟨Nat.le_of_ble_eq_true rfl, Nat.le_of_ble_eq_true rfl⟩) (fun r_1 w1_ hw_ => ?_)
  obtain ⟨rfl, H⟩ := hw_
  refine k_ws [0, 1] (ws' := [(h_t, .inr (0, [.int width, .int height, .int slack, .int limit, .int paragraphs, u_t_costs, .ref h_t_rows])), (h_t_rows, .inl (cA 0, 544, .inl rows))]) rfl rfl ?_
  refine k_istore_n C (pc := 5) dX0_addWord_5 rfl (Nat.lt_of_lt_of_le (Nat.lt_succ_self _) (Nat.le_of_ble_eq_true rfl)) (lv' := [(3, .int r_1), (0, .ref h_t), (1, .int a1), (2, .int a2)]) rfl ?_
  refine k_aload_n C 1 (pc := 6) dX0_addWord_6 rfl rfl ?_
  refine k_iload_n C 2 (pc := 7) dX0_addWord_7 rfl rfl ?_
  refine k_iload_n C 0 (pc := 8) dX0_addWord_8 rfl rfl ?_
  refine k_iload_n C 3 (pc := 9) dX0_addWord_9 rfl rfl ?_
  refine k_callv C (pc := 10) [0, 1] [] (wc := [(h_t, .inr (0, [.int width, .int height, .int slack, .int limit, .int paragraphs, u_t_costs, .ref h_t_rows])), (h_t_rows, .inl (cA 0, 544, .inl rows))]) (wr := []) rfl rfl rfl rfl (by decide) (k_runV C (As := [.int a1, .int r_1, .int a2]) (rest := []) (ci := 0) (q0 := 0) (conX0_setWord l D cA h_t h_t_rows u_t_costs width height slack limit paragraphs rows a1 r_1 a2  _ H) ⟨k_cwB C tW_3_147 tW_3_144 tW_1_2 okX0_setWord rfl rfl ⟨Nat.le_of_ble_eq_true rfl, Nat.le_of_ble_eq_true rfl⟩, C.w tW_3_145, C.w tW_3_146⟩ rfl rfl rfl rfl rfl (Nat.le_of_ble_eq_true rfl) dX0_addWord_10 ⟨Nat.le_of_ble_eq_true rfl, Nat.le_of_ble_eq_true rfl⟩) (fun w1_ hw_ => ?_)
  obtain ⟨rows_2, rfl, H⟩ := hw_
  refine k_ws [0, 1] (ws' := [(h_t, .inr (0, [.int width, .int height, .int slack, .int limit, .int paragraphs, u_t_costs, .ref h_t_rows])), (h_t_rows, .inl (cA 0, 544, .inl rows_2))]) rfl rfl ?_
  refine k_aload_n C 1 (pc := 13) dX0_addWord_13 rfl rfl ?_
  refine k_get C (pc := 14) inW_X0 0 6 rfl rfl (Nat.lt_of_lt_of_le (Nat.lt_succ_self _) (Nat.le_of_ble_eq_true rfl)) (ref := "WidowWatch$Book") tW_1_70 rfl rfl dX0_addWord_14 ?_
  refine k_iload_n C 2 (pc := 17) dX0_addWord_17 rfl rfl ?_
  refine k_bipush C (pc := 18) (v := (34 : Int32)) dX0_addWord_18 (by decide) ?_
  refine k_imul C (pc := 20) dX0_addWord_20 ?_
  refine k_iconst C (pc := 21) (v := (0 : Int32)) dX0_addWord_21 rfl ?_
  refine k_iadd C (pc := 22) dX0_addWord_22 ?_
  refine k_iload_n C 0 (pc := 23) dX0_addWord_23 rfl rfl ?_
  refine k_iconst C (pc := 24) (v := (1 : Int32)) dX0_addWord_24 rfl ?_
  refine k_iadd C (pc := 25) dX0_addWord_25 ?_
  refine k_callv C (pc := 26) [1] [0] (wc := [(h_t_rows, .inl (cA 0, 544, .inl rows_2))]) (wr := [(h_t, .inr (0, [.int width, .int height, .int slack, .int limit, .int paragraphs, u_t_costs, .ref h_t_rows]))]) rfl rfl rfl rfl (by decide) (k_runSN C (As := [.ref h_t_rows, .int ((a1 * (34 : Int32)) + (0 : Int32)), .int (r_1 + (1 : Int32))]) (rest := []) (conX6_put l D cA h_t_rows 544 rows_2 ((a1 * (34 : Int32)) + (0 : Int32)) (r_1 + (1 : Int32))  _ H) ⟨k_cwN C tW_2_53 (k_n13 C) tW_1_1 okX6_put rfl rfl ⟨Nat.le_of_ble_eq_true rfl, Nat.le_of_ble_eq_true rfl⟩, C.w tW_2_52, trivial⟩ rfl rfl (Nat.le_of_ble_eq_true rfl) dX0_addWord_26 ⟨Nat.le_of_ble_eq_true rfl, Nat.le_of_ble_eq_true rfl⟩) (fun w1_ hw_ => ?_)
  obtain ⟨rows_3, rfl, H⟩ := hw_
  refine k_ws [0, 1] (ws' := [(h_t, .inr (0, [.int width, .int height, .int slack, .int limit, .int paragraphs, u_t_costs, .ref h_t_rows])), (h_t_rows, .inl (cA 0, 544, .inl rows_3))]) rfl rfl ?_
  exact k_vret C (pc := 29) hr dX0_addWord_29 ⟨_, rfl, H⟩
/-! WidowWatch$Book.copyFrom(LWidowWatch$Book;)V -/
theorem dX0_copyFrom_0 : decode cX0_copyFrom 0 = .ok (.aload_n 0, 1) := by decide +kernel
theorem dX0_copyFrom_1 : decode cX0_copyFrom 1 = .ok (.aload_n 1, 1) := by decide +kernel
theorem dX0_copyFrom_2 : decode cX0_copyFrom 2 = .ok (.getfield 21, 3) := by decide +kernel
theorem dX0_copyFrom_5 : decode cX0_copyFrom 5 = .ok (.putfield 21, 3) := by decide +kernel
theorem dX0_copyFrom_8 : decode cX0_copyFrom 8 = .ok (.aload_n 0, 1) := by decide +kernel
theorem dX0_copyFrom_9 : decode cX0_copyFrom 9 = .ok (.aload_n 1, 1) := by decide +kernel
theorem dX0_copyFrom_10 : decode cX0_copyFrom 10 = .ok (.getfield 25, 3) := by decide +kernel
theorem dX0_copyFrom_13 : decode cX0_copyFrom 13 = .ok (.putfield 25, 3) := by decide +kernel
theorem dX0_copyFrom_16 : decode cX0_copyFrom 16 = .ok (.aload_n 0, 1) := by decide +kernel
theorem dX0_copyFrom_17 : decode cX0_copyFrom 17 = .ok (.aload_n 1, 1) := by decide +kernel
theorem dX0_copyFrom_18 : decode cX0_copyFrom 18 = .ok (.getfield 28, 3) := by decide +kernel
theorem dX0_copyFrom_21 : decode cX0_copyFrom 21 = .ok (.putfield 28, 3) := by decide +kernel
theorem dX0_copyFrom_24 : decode cX0_copyFrom 24 = .ok (.aload_n 0, 1) := by decide +kernel
theorem dX0_copyFrom_25 : decode cX0_copyFrom 25 = .ok (.aload_n 1, 1) := by decide +kernel
theorem dX0_copyFrom_26 : decode cX0_copyFrom 26 = .ok (.getfield 31, 3) := by decide +kernel
theorem dX0_copyFrom_29 : decode cX0_copyFrom 29 = .ok (.putfield 31, 3) := by decide +kernel
theorem dX0_copyFrom_32 : decode cX0_copyFrom 32 = .ok (.aload_n 0, 1) := by decide +kernel
theorem dX0_copyFrom_33 : decode cX0_copyFrom 33 = .ok (.aload_n 1, 1) := by decide +kernel
theorem dX0_copyFrom_34 : decode cX0_copyFrom 34 = .ok (.getfield 34, 3) := by decide +kernel
theorem dX0_copyFrom_37 : decode cX0_copyFrom 37 = .ok (.putfield 34, 3) := by decide +kernel
theorem dX0_copyFrom_40 : decode cX0_copyFrom 40 = .ok (.aload_n 1, 1) := by decide +kernel
theorem dX0_copyFrom_41 : decode cX0_copyFrom 41 = .ok (.getfield 11, 3) := by decide +kernel
theorem dX0_copyFrom_44 : decode cX0_copyFrom 44 = .ok (.aload_n 0, 1) := by decide +kernel
theorem dX0_copyFrom_45 : decode cX0_copyFrom 45 = .ok (.getfield 11, 3) := by decide +kernel
theorem dX0_copyFrom_48 : decode cX0_copyFrom 48 = .ok (.invokestatic 40, 3) := by decide +kernel
theorem dX0_copyFrom_51 : decode cX0_copyFrom 51 = .ok (.aload_n 1, 1) := by decide +kernel
theorem dX0_copyFrom_52 : decode cX0_copyFrom 52 = .ok (.getfield 15, 3) := by decide +kernel
theorem dX0_copyFrom_55 : decode cX0_copyFrom 55 = .ok (.aload_n 0, 1) := by decide +kernel
theorem dX0_copyFrom_56 : decode cX0_copyFrom 56 = .ok (.getfield 15, 3) := by decide +kernel
theorem dX0_copyFrom_59 : decode cX0_copyFrom 59 = .ok (.invokestatic 40, 3) := by decide +kernel
theorem dX0_copyFrom_62 : decode cX0_copyFrom 62 = .ok (.return_, 1) := by decide +kernel
theorem okX0_copyFrom : okY yX0_copyFrom 1 := ⟨by decide +kernel, by decide +kernel, by decide +kernel⟩
def wpX0_copyFrom (width : Int32) (height : Int32) (slack : Int32) (limit : Int32) (paragraphs : Int32) (costs : Nat → Int32) (rows : Nat → Int32) (q1_width : Int32) (q1_height : Int32) (q1_slack : Int32) (q1_limit : Int32) (q1_paragraphs : Int32) (q1_costs : Nat → Int32) (q1_rows : Nat → Int32) (Post : Int32 → Int32 → Int32 → Int32 → Int32 → (Nat → Int32) → (Nat → Int32) → Prop) : Prop := wpX6_copyRow 6 q1_costs 6 costs (fun costs_1 => wpX6_copyRow 544 q1_rows 544 rows (fun rows_2 => Post q1_width q1_height q1_slack q1_limit q1_paragraphs costs_1 rows_2))
set_option maxHeartbeats 4000000 in
set_option maxRecDepth 100000 in
theorem conX0_copyFrom (l : Launch) (D : va_G) (cA : Nat → ClassId) (h_t h_p1 h_t_costs h_t_rows h_p1_costs h_p1_rows : Nat) (width : Int32) (height : Int32) (slack : Int32) (limit : Int32) (paragraphs : Int32) (costs : Nat → Int32) (rows : Nat → Int32) (q1_width : Int32) (q1_height : Int32) (q1_slack : Int32) (q1_limit : Int32) (q1_paragraphs : Int32) (q1_costs : Nat → Int32) (q1_rows : Nat → Int32) (Post : Int32 → Int32 → Int32 → Int32 → Int32 → (Nat → Int32) → (Nat → Int32) → Prop) (H : wpX0_copyFrom width height slack limit paragraphs costs rows q1_width q1_height q1_slack q1_limit q1_paragraphs q1_costs q1_rows Post) : Con l D cA yX0_copyFrom (wm yX0_copyFrom cX0_copyFrom 2 none) { frames := 1, cells := 0, slots := 0, locals := 22 } [(h_t, .inr (0, [.int width, .int height, .int slack, .int limit, .int paragraphs, .ref h_t_costs, .ref h_t_rows])), (h_t_costs, .inl (cA 0, 6, .inl costs)), (h_t_rows, .inl (cA 0, 544, .inl rows)), (h_p1, .inr (0, [.int q1_width, .int q1_height, .int q1_slack, .int q1_limit, .int q1_paragraphs, .ref h_p1_costs, .ref h_p1_rows])), (h_p1_costs, .inl (cA 0, 6, .inl q1_costs)), (h_p1_rows, .inl (cA 0, 544, .inl q1_rows))] [.ref h_t, .ref h_p1] 0 0 (PV (fun w1 => ∃ (width' : Int32) (height' : Int32) (slack' : Int32) (limit' : Int32) (paragraphs' : Int32) (costs' : Nat → Int32) (rows' : Nat → Int32), w1 = [(h_t, .inr (0, [.int (width'), .int (height'), .int (slack'), .int (limit'), .int (paragraphs'), .ref h_t_costs, .ref h_t_rows])), (h_t_costs, .inl (cA 0, 6, .inl (costs'))), (h_t_rows, .inl (cA 0, 544, .inl (rows'))), (h_p1, .inr (0, [.int q1_width, .int q1_height, .int q1_slack, .int q1_limit, .int q1_paragraphs, .ref h_p1_costs, .ref h_p1_rows])), (h_p1_costs, .inl (cA 0, 6, .inl q1_costs)), (h_p1_rows, .inl (cA 0, 544, .inl q1_rows))] ∧ Post width' height' slack' limit' paragraphs' costs' rows')) := by
  refine Con.of (by decide) (Nat.le_of_ble_eq_true rfl) ?_
  intro p e s m args below meth c C hr hini
  refine k_eq (ws' := [(h_t, .inr (0, [.int width, .int height, .int slack, .int limit, .int paragraphs, .ref h_t_costs, .ref h_t_rows])), (h_t_costs, .inl (cA 0, 6, .inl costs)), (h_t_rows, .inl (cA 0, 544, .inl rows)), (h_p1, .inr (0, [.int q1_width, .int q1_height, .int q1_slack, .int q1_limit, .int q1_paragraphs, .ref h_p1_costs, .ref h_p1_rows])), (h_p1_costs, .inl (cA 0, 6, .inl q1_costs)), (h_p1_rows, .inl (cA 0, 544, .inl q1_rows))]) (lv' := [(0, .ref h_t), (1, .ref h_p1)]) (st' := []) rfl rfl rfl ?_
  refine k_aload_n C 0 (pc := 0) dX0_copyFrom_0 rfl rfl ?_
  refine k_aload_n C 1 (pc := 1) dX0_copyFrom_1 rfl rfl ?_
  refine k_get C (pc := 2) inW_X0 3 0 rfl rfl (Nat.lt_of_lt_of_le (Nat.lt_succ_self _) (Nat.le_of_ble_eq_true rfl)) (ref := "WidowWatch$Book") tW_1_54 rfl rfl dX0_copyFrom_2 ?_
  refine k_put C (pc := 5) inW_X0 tyX0 tyX0_ok nmX0 0 0 rfl rfl (Nat.lt_of_lt_of_le (Nat.lt_succ_self _) (Nat.le_of_ble_eq_true rfl)) (ref := "WidowWatch$Book") tW_1_54 rfl rfl rfl (ty := .int) rfl rfl (Nat.lt_of_lt_of_le (Nat.lt_succ_self _) (Nat.le_of_ble_eq_true rfl)) (fs' := [.int q1_width, .int height, .int slack, .int limit, .int paragraphs, .ref h_t_costs, .ref h_t_rows]) rfl (ws' := [(h_t, .inr (0, [.int q1_width, .int height, .int slack, .int limit, .int paragraphs, .ref h_t_costs, .ref h_t_rows])), (h_t_costs, .inl (cA 0, 6, .inl costs)), (h_t_rows, .inl (cA 0, 544, .inl rows)), (h_p1, .inr (0, [.int q1_width, .int q1_height, .int q1_slack, .int q1_limit, .int q1_paragraphs, .ref h_p1_costs, .ref h_p1_rows])), (h_p1_costs, .inl (cA 0, 6, .inl q1_costs)), (h_p1_rows, .inl (cA 0, 544, .inl q1_rows))]) rfl dX0_copyFrom_5 ?_
  refine k_aload_n C 0 (pc := 8) dX0_copyFrom_8 rfl rfl ?_
  refine k_aload_n C 1 (pc := 9) dX0_copyFrom_9 rfl rfl ?_
  refine k_get C (pc := 10) inW_X0 3 1 rfl rfl (Nat.lt_of_lt_of_le (Nat.lt_succ_self _) (Nat.le_of_ble_eq_true rfl)) (ref := "WidowWatch$Book") tW_1_57 rfl rfl dX0_copyFrom_10 ?_
  refine k_put C (pc := 13) inW_X0 tyX0 tyX0_ok nmX0 0 1 rfl rfl (Nat.lt_of_lt_of_le (Nat.lt_succ_self _) (Nat.le_of_ble_eq_true rfl)) (ref := "WidowWatch$Book") tW_1_57 rfl rfl rfl (ty := .int) rfl rfl (Nat.lt_of_lt_of_le (Nat.lt_succ_self _) (Nat.le_of_ble_eq_true rfl)) (fs' := [.int q1_width, .int q1_height, .int slack, .int limit, .int paragraphs, .ref h_t_costs, .ref h_t_rows]) rfl (ws' := [(h_t, .inr (0, [.int q1_width, .int q1_height, .int slack, .int limit, .int paragraphs, .ref h_t_costs, .ref h_t_rows])), (h_t_costs, .inl (cA 0, 6, .inl costs)), (h_t_rows, .inl (cA 0, 544, .inl rows)), (h_p1, .inr (0, [.int q1_width, .int q1_height, .int q1_slack, .int q1_limit, .int q1_paragraphs, .ref h_p1_costs, .ref h_p1_rows])), (h_p1_costs, .inl (cA 0, 6, .inl q1_costs)), (h_p1_rows, .inl (cA 0, 544, .inl q1_rows))]) rfl dX0_copyFrom_13 ?_
  refine k_aload_n C 0 (pc := 16) dX0_copyFrom_16 rfl rfl ?_
  refine k_aload_n C 1 (pc := 17) dX0_copyFrom_17 rfl rfl ?_
  refine k_get C (pc := 18) inW_X0 3 2 rfl rfl (Nat.lt_of_lt_of_le (Nat.lt_succ_self _) (Nat.le_of_ble_eq_true rfl)) (ref := "WidowWatch$Book") tW_1_60 rfl rfl dX0_copyFrom_18 ?_
  refine k_put C (pc := 21) inW_X0 tyX0 tyX0_ok nmX0 0 2 rfl rfl (Nat.lt_of_lt_of_le (Nat.lt_succ_self _) (Nat.le_of_ble_eq_true rfl)) (ref := "WidowWatch$Book") tW_1_60 rfl rfl rfl (ty := .int) rfl rfl (Nat.lt_of_lt_of_le (Nat.lt_succ_self _) (Nat.le_of_ble_eq_true rfl)) (fs' := [.int q1_width, .int q1_height, .int q1_slack, .int limit, .int paragraphs, .ref h_t_costs, .ref h_t_rows]) rfl (ws' := [(h_t, .inr (0, [.int q1_width, .int q1_height, .int q1_slack, .int limit, .int paragraphs, .ref h_t_costs, .ref h_t_rows])), (h_t_costs, .inl (cA 0, 6, .inl costs)), (h_t_rows, .inl (cA 0, 544, .inl rows)), (h_p1, .inr (0, [.int q1_width, .int q1_height, .int q1_slack, .int q1_limit, .int q1_paragraphs, .ref h_p1_costs, .ref h_p1_rows])), (h_p1_costs, .inl (cA 0, 6, .inl q1_costs)), (h_p1_rows, .inl (cA 0, 544, .inl q1_rows))]) rfl dX0_copyFrom_21 ?_
  refine k_aload_n C 0 (pc := 24) dX0_copyFrom_24 rfl rfl ?_
  refine k_aload_n C 1 (pc := 25) dX0_copyFrom_25 rfl rfl ?_
  refine k_get C (pc := 26) inW_X0 3 3 rfl rfl (Nat.lt_of_lt_of_le (Nat.lt_succ_self _) (Nat.le_of_ble_eq_true rfl)) (ref := "WidowWatch$Book") tW_1_62 rfl rfl dX0_copyFrom_26 ?_
  refine k_put C (pc := 29) inW_X0 tyX0 tyX0_ok nmX0 0 3 rfl rfl (Nat.lt_of_lt_of_le (Nat.lt_succ_self _) (Nat.le_of_ble_eq_true rfl)) (ref := "WidowWatch$Book") tW_1_62 rfl rfl rfl (ty := .int) rfl rfl (Nat.lt_of_lt_of_le (Nat.lt_succ_self _) (Nat.le_of_ble_eq_true rfl)) (fs' := [.int q1_width, .int q1_height, .int q1_slack, .int q1_limit, .int paragraphs, .ref h_t_costs, .ref h_t_rows]) rfl (ws' := [(h_t, .inr (0, [.int q1_width, .int q1_height, .int q1_slack, .int q1_limit, .int paragraphs, .ref h_t_costs, .ref h_t_rows])), (h_t_costs, .inl (cA 0, 6, .inl costs)), (h_t_rows, .inl (cA 0, 544, .inl rows)), (h_p1, .inr (0, [.int q1_width, .int q1_height, .int q1_slack, .int q1_limit, .int q1_paragraphs, .ref h_p1_costs, .ref h_p1_rows])), (h_p1_costs, .inl (cA 0, 6, .inl q1_costs)), (h_p1_rows, .inl (cA 0, 544, .inl q1_rows))]) rfl dX0_copyFrom_29 ?_
  refine k_aload_n C 0 (pc := 32) dX0_copyFrom_32 rfl rfl ?_
  refine k_aload_n C 1 (pc := 33) dX0_copyFrom_33 rfl rfl ?_
  refine k_get C (pc := 34) inW_X0 3 4 rfl rfl (Nat.lt_of_lt_of_le (Nat.lt_succ_self _) (Nat.le_of_ble_eq_true rfl)) (ref := "WidowWatch$Book") tW_1_65 rfl rfl dX0_copyFrom_34 ?_
  refine k_put C (pc := 37) inW_X0 tyX0 tyX0_ok nmX0 0 4 rfl rfl (Nat.lt_of_lt_of_le (Nat.lt_succ_self _) (Nat.le_of_ble_eq_true rfl)) (ref := "WidowWatch$Book") tW_1_65 rfl rfl rfl (ty := .int) rfl rfl (Nat.lt_of_lt_of_le (Nat.lt_succ_self _) (Nat.le_of_ble_eq_true rfl)) (fs' := [.int q1_width, .int q1_height, .int q1_slack, .int q1_limit, .int q1_paragraphs, .ref h_t_costs, .ref h_t_rows]) rfl (ws' := [(h_t, .inr (0, [.int q1_width, .int q1_height, .int q1_slack, .int q1_limit, .int q1_paragraphs, .ref h_t_costs, .ref h_t_rows])), (h_t_costs, .inl (cA 0, 6, .inl costs)), (h_t_rows, .inl (cA 0, 544, .inl rows)), (h_p1, .inr (0, [.int q1_width, .int q1_height, .int q1_slack, .int q1_limit, .int q1_paragraphs, .ref h_p1_costs, .ref h_p1_rows])), (h_p1_costs, .inl (cA 0, 6, .inl q1_costs)), (h_p1_rows, .inl (cA 0, 544, .inl q1_rows))]) rfl dX0_copyFrom_37 ?_
  refine k_aload_n C 1 (pc := 40) dX0_copyFrom_40 rfl rfl ?_
  refine k_get C (pc := 41) inW_X0 3 5 rfl rfl (Nat.lt_of_lt_of_le (Nat.lt_succ_self _) (Nat.le_of_ble_eq_true rfl)) (ref := "WidowWatch$Book") tW_1_69 rfl rfl dX0_copyFrom_41 ?_
  refine k_aload_n C 0 (pc := 44) dX0_copyFrom_44 rfl rfl ?_
  refine k_get C (pc := 45) inW_X0 0 5 rfl rfl (Nat.lt_of_lt_of_le (Nat.lt_succ_self _) (Nat.le_of_ble_eq_true rfl)) (ref := "WidowWatch$Book") tW_1_69 rfl rfl dX0_copyFrom_45 ?_
  refine k_callv C (pc := 48) [4, 1] [0, 2, 3, 5] (wc := [(h_p1_costs, .inl (cA 0, 6, .inl q1_costs)), (h_t_costs, .inl (cA 0, 6, .inl costs))]) (wr := [(h_t, .inr (0, [.int q1_width, .int q1_height, .int q1_slack, .int q1_limit, .int q1_paragraphs, .ref h_t_costs, .ref h_t_rows])), (h_t_rows, .inl (cA 0, 544, .inl rows)), (h_p1, .inr (0, [.int q1_width, .int q1_height, .int q1_slack, .int q1_limit, .int q1_paragraphs, .ref h_p1_costs, .ref h_p1_rows])), (h_p1_rows, .inl (cA 0, 544, .inl q1_rows))]) rfl rfl rfl rfl (by decide) (k_runSN C (As := [.ref h_p1_costs, .ref h_t_costs]) (rest := []) (conX6_copyRow l D cA h_p1_costs h_t_costs 6 q1_costs 6 costs  _ H) ⟨k_cwN C tW_1_53 (k_n0 C) tW_1_1 okX6_copyRow rfl rfl ⟨Nat.le_of_ble_eq_true rfl, Nat.le_of_ble_eq_true rfl⟩, C.w tW_1_52, trivial⟩ rfl rfl (Nat.le_of_ble_eq_true rfl) dX0_copyFrom_48 ⟨Nat.le_of_ble_eq_true rfl, Nat.le_of_ble_eq_true rfl⟩) (fun w1_ hw_ => ?_)
  obtain ⟨costs_1, rfl, H⟩ := hw_
  refine k_ws [0, 5, 1, 2, 4, 3] (ws' := [(h_t, .inr (0, [.int q1_width, .int q1_height, .int q1_slack, .int q1_limit, .int q1_paragraphs, .ref h_t_costs, .ref h_t_rows])), (h_t_costs, .inl (cA 0, 6, .inl costs_1)), (h_t_rows, .inl (cA 0, 544, .inl rows)), (h_p1, .inr (0, [.int q1_width, .int q1_height, .int q1_slack, .int q1_limit, .int q1_paragraphs, .ref h_p1_costs, .ref h_p1_rows])), (h_p1_costs, .inl (cA 0, 6, .inl q1_costs)), (h_p1_rows, .inl (cA 0, 544, .inl q1_rows))]) rfl rfl ?_
  refine k_aload_n C 1 (pc := 51) dX0_copyFrom_51 rfl rfl ?_
  refine k_get C (pc := 52) inW_X0 3 6 rfl rfl (Nat.lt_of_lt_of_le (Nat.lt_succ_self _) (Nat.le_of_ble_eq_true rfl)) (ref := "WidowWatch$Book") tW_1_70 rfl rfl dX0_copyFrom_52 ?_
  refine k_aload_n C 0 (pc := 55) dX0_copyFrom_55 rfl rfl ?_
  refine k_get C (pc := 56) inW_X0 0 6 rfl rfl (Nat.lt_of_lt_of_le (Nat.lt_succ_self _) (Nat.le_of_ble_eq_true rfl)) (ref := "WidowWatch$Book") tW_1_70 rfl rfl dX0_copyFrom_56 ?_
  refine k_callv C (pc := 59) [5, 2] [0, 1, 3, 4] (wc := [(h_p1_rows, .inl (cA 0, 544, .inl q1_rows)), (h_t_rows, .inl (cA 0, 544, .inl rows))]) (wr := [(h_t, .inr (0, [.int q1_width, .int q1_height, .int q1_slack, .int q1_limit, .int q1_paragraphs, .ref h_t_costs, .ref h_t_rows])), (h_t_costs, .inl (cA 0, 6, .inl costs_1)), (h_p1, .inr (0, [.int q1_width, .int q1_height, .int q1_slack, .int q1_limit, .int q1_paragraphs, .ref h_p1_costs, .ref h_p1_rows])), (h_p1_costs, .inl (cA 0, 6, .inl q1_costs))]) rfl rfl rfl rfl (by decide) (k_runSN C (As := [.ref h_p1_rows, .ref h_t_rows]) (rest := []) (conX6_copyRow l D cA h_p1_rows h_t_rows 544 q1_rows 544 rows  _ H) ⟨k_cwN C tW_1_53 (k_n0 C) tW_1_1 okX6_copyRow rfl rfl ⟨Nat.le_of_ble_eq_true rfl, Nat.le_of_ble_eq_true rfl⟩, C.w tW_1_52, trivial⟩ rfl rfl (Nat.le_of_ble_eq_true rfl) dX0_copyFrom_59 ⟨Nat.le_of_ble_eq_true rfl, Nat.le_of_ble_eq_true rfl⟩) (fun w1_ hw_ => ?_)
  obtain ⟨rows_2, rfl, H⟩ := hw_
  refine k_ws [0, 1, 5, 2, 3, 4] (ws' := [(h_t, .inr (0, [.int q1_width, .int q1_height, .int q1_slack, .int q1_limit, .int q1_paragraphs, .ref h_t_costs, .ref h_t_rows])), (h_t_costs, .inl (cA 0, 6, .inl costs_1)), (h_t_rows, .inl (cA 0, 544, .inl rows_2)), (h_p1, .inr (0, [.int q1_width, .int q1_height, .int q1_slack, .int q1_limit, .int q1_paragraphs, .ref h_p1_costs, .ref h_p1_rows])), (h_p1_costs, .inl (cA 0, 6, .inl q1_costs)), (h_p1_rows, .inl (cA 0, 544, .inl q1_rows))]) rfl rfl ?_
  exact k_vret C (pc := 62) hr dX0_copyFrom_62 ⟨_, _, _, _, _, _, _, rfl, H⟩
/-! WidowWatch$Book.numberOf(I)I -/
theorem dX0_numberOf_0 : decode cX0_numberOf 0 = .ok (.iload_n 1, 1) := by decide +kernel
theorem dX0_numberOf_1 : decode cX0_numberOf 1 = .ok (.tableswitch 78 0 6 #[43, 48, 53, 58, 63, 68, 73], 43) := by decide +kernel
theorem dX0_numberOf_44 : decode cX0_numberOf 44 = .ok (.aload_n 0, 1) := by decide +kernel
theorem dX0_numberOf_45 : decode cX0_numberOf 45 = .ok (.getfield 21, 3) := by decide +kernel
theorem dX0_numberOf_48 : decode cX0_numberOf 48 = .ok (.ireturn, 1) := by decide +kernel
theorem dX0_numberOf_49 : decode cX0_numberOf 49 = .ok (.aload_n 0, 1) := by decide +kernel
theorem dX0_numberOf_50 : decode cX0_numberOf 50 = .ok (.getfield 25, 3) := by decide +kernel
theorem dX0_numberOf_53 : decode cX0_numberOf 53 = .ok (.ireturn, 1) := by decide +kernel
theorem dX0_numberOf_54 : decode cX0_numberOf 54 = .ok (.aload_n 0, 1) := by decide +kernel
theorem dX0_numberOf_55 : decode cX0_numberOf 55 = .ok (.getfield 28, 3) := by decide +kernel
theorem dX0_numberOf_58 : decode cX0_numberOf 58 = .ok (.ireturn, 1) := by decide +kernel
theorem dX0_numberOf_59 : decode cX0_numberOf 59 = .ok (.aload_n 0, 1) := by decide +kernel
theorem dX0_numberOf_60 : decode cX0_numberOf 60 = .ok (.getfield 31, 3) := by decide +kernel
theorem dX0_numberOf_63 : decode cX0_numberOf 63 = .ok (.ireturn, 1) := by decide +kernel
theorem dX0_numberOf_64 : decode cX0_numberOf 64 = .ok (.aload_n 0, 1) := by decide +kernel
theorem dX0_numberOf_65 : decode cX0_numberOf 65 = .ok (.getfield 34, 3) := by decide +kernel
theorem dX0_numberOf_68 : decode cX0_numberOf 68 = .ok (.ireturn, 1) := by decide +kernel
theorem dX0_numberOf_69 : decode cX0_numberOf 69 = .ok (.aload_n 0, 1) := by decide +kernel
theorem dX0_numberOf_70 : decode cX0_numberOf 70 = .ok (.invokevirtual 44, 3) := by decide +kernel
theorem dX0_numberOf_73 : decode cX0_numberOf 73 = .ok (.ireturn, 1) := by decide +kernel
theorem dX0_numberOf_74 : decode cX0_numberOf 74 = .ok (.aload_n 0, 1) := by decide +kernel
theorem dX0_numberOf_75 : decode cX0_numberOf 75 = .ok (.invokevirtual 48, 3) := by decide +kernel
theorem dX0_numberOf_78 : decode cX0_numberOf 78 = .ok (.ireturn, 1) := by decide +kernel
theorem dX0_numberOf_79 : decode cX0_numberOf 79 = .ok (.aload_n 0, 1) := by decide +kernel
theorem dX0_numberOf_80 : decode cX0_numberOf 80 = .ok (.iload_n 1, 1) := by decide +kernel
theorem dX0_numberOf_81 : decode cX0_numberOf 81 = .ok (.bipush 7, 2) := by decide +kernel
theorem dX0_numberOf_83 : decode cX0_numberOf 83 = .ok (.isub, 1) := by decide +kernel
theorem dX0_numberOf_84 : decode cX0_numberOf 84 = .ok (.invokevirtual 51, 3) := by decide +kernel
theorem dX0_numberOf_87 : decode cX0_numberOf 87 = .ok (.ireturn, 1) := by decide +kernel
theorem okX0_numberOf : okY yX0_numberOf 1 := ⟨by decide +kernel, by decide +kernel, by decide +kernel⟩
def wpX0_numberOf (width : Int32) (height : Int32) (slack : Int32) (limit : Int32) (paragraphs : Int32) (costs : Nat → Int32) (rows : Nat → Int32) (a1 : Int32) (Post : Int32 → Prop) : Prop := (a1 = (0 : Int32) → Post width) ∧ (a1 = (1 : Int32) → Post height) ∧ (a1 = (2 : Int32) → Post slack) ∧ (a1 = (3 : Int32) → Post limit) ∧ (a1 = (4 : Int32) → Post paragraphs) ∧ (a1 = (5 : Int32) → wpX0_allWords paragraphs rows (fun r_1 => Post r_1)) ∧ (a1 = (6 : Int32) → wpX0_allFixed paragraphs rows (fun r_2 => Post r_2)) ∧ (¬ a1 = (0 : Int32) ∧ ¬ a1 = (1 : Int32) ∧ ¬ a1 = (2 : Int32) ∧ ¬ a1 = (3 : Int32) ∧ ¬ a1 = (4 : Int32) ∧ ¬ a1 = (5 : Int32) ∧ ¬ a1 = (6 : Int32) → wpX0_costOf costs (a1 - (7 : Int32)) (fun r_3 => Post r_3))
set_option maxHeartbeats 4000000 in
set_option maxRecDepth 100000 in
theorem conX0_numberOf (l : Launch) (D : va_G) (cA : Nat → ClassId) (h_t h_t_costs h_t_rows : Nat) (width : Int32) (height : Int32) (slack : Int32) (limit : Int32) (paragraphs : Int32) (costs : Nat → Int32) (rows : Nat → Int32) (a1 : Int32) (Post : Int32 → Prop) (H : wpX0_numberOf width height slack limit paragraphs costs rows a1 Post) : Con l D cA yX0_numberOf (wm yX0_numberOf cX0_numberOf 2 (some .int)) { frames := 3, cells := 0, slots := 0, locals := 64 } [(h_t, .inr (0, [.int width, .int height, .int slack, .int limit, .int paragraphs, .ref h_t_costs, .ref h_t_rows])), (h_t_costs, .inl (cA 0, 6, .inl costs)), (h_t_rows, .inl (cA 0, 544, .inl rows))] [.ref h_t, .int a1] 0 0 (PI (fun r w1 => w1 = [(h_t, .inr (0, [.int width, .int height, .int slack, .int limit, .int paragraphs, .ref h_t_costs, .ref h_t_rows])), (h_t_costs, .inl (cA 0, 6, .inl costs)), (h_t_rows, .inl (cA 0, 544, .inl rows))] ∧ Post r)) := by
  refine Con.of (by decide) (Nat.le_of_ble_eq_true rfl) ?_
  intro p e s m args below meth c C hr hini
  refine k_eq (ws' := [(h_t, .inr (0, [.int width, .int height, .int slack, .int limit, .int paragraphs, .ref h_t_costs, .ref h_t_rows])), (h_t_costs, .inl (cA 0, 6, .inl costs)), (h_t_rows, .inl (cA 0, 544, .inl rows))]) (lv' := [(0, .ref h_t), (1, .int a1)]) (st' := []) rfl rfl rfl ?_
  refine k_iload_n C 1 (pc := 0) dX0_numberOf_0 rfl rfl ?_
  by_cases c_1_0 : a1 = (0 : Int32)
  · have H := H.1 c_1_0
    refine k_tableIn C (pc := 1) (off := 43) (tgt := 44) dX0_numberOf_1 (by rw [c_1_0]; decide) (by rw [c_1_0]; decide) (by rw [c_1_0]; rfl) (by decide) ?_
    refine k_aload_n C 0 (pc := 44) dX0_numberOf_44 rfl rfl ?_
    refine k_get C (pc := 45) inW_X0 0 0 rfl rfl (Nat.lt_of_lt_of_le (Nat.lt_succ_self _) (Nat.le_of_ble_eq_true rfl)) (ref := "WidowWatch$Book") tW_1_54 rfl rfl dX0_numberOf_45 ?_
    exact k_iret C (pc := 48) hr dX0_numberOf_48 ⟨rfl, H⟩
  by_cases c_1_1 : a1 = (1 : Int32)
  · have H := H.2.1 c_1_1
    refine k_tableIn C (pc := 1) (off := 48) (tgt := 49) dX0_numberOf_1 (by rw [c_1_1]; decide) (by rw [c_1_1]; decide) (by rw [c_1_1]; rfl) (by decide) ?_
    refine k_aload_n C 0 (pc := 49) dX0_numberOf_49 rfl rfl ?_
    refine k_get C (pc := 50) inW_X0 0 1 rfl rfl (Nat.lt_of_lt_of_le (Nat.lt_succ_self _) (Nat.le_of_ble_eq_true rfl)) (ref := "WidowWatch$Book") tW_1_57 rfl rfl dX0_numberOf_50 ?_
    exact k_iret C (pc := 53) hr dX0_numberOf_53 ⟨rfl, H⟩
  by_cases c_1_2 : a1 = (2 : Int32)
  · have H := H.2.2.1 c_1_2
    refine k_tableIn C (pc := 1) (off := 53) (tgt := 54) dX0_numberOf_1 (by rw [c_1_2]; decide) (by rw [c_1_2]; decide) (by rw [c_1_2]; rfl) (by decide) ?_
    refine k_aload_n C 0 (pc := 54) dX0_numberOf_54 rfl rfl ?_
    refine k_get C (pc := 55) inW_X0 0 2 rfl rfl (Nat.lt_of_lt_of_le (Nat.lt_succ_self _) (Nat.le_of_ble_eq_true rfl)) (ref := "WidowWatch$Book") tW_1_60 rfl rfl dX0_numberOf_55 ?_
    exact k_iret C (pc := 58) hr dX0_numberOf_58 ⟨rfl, H⟩
  by_cases c_1_3 : a1 = (3 : Int32)
  · have H := H.2.2.2.1 c_1_3
    refine k_tableIn C (pc := 1) (off := 58) (tgt := 59) dX0_numberOf_1 (by rw [c_1_3]; decide) (by rw [c_1_3]; decide) (by rw [c_1_3]; rfl) (by decide) ?_
    refine k_aload_n C 0 (pc := 59) dX0_numberOf_59 rfl rfl ?_
    refine k_get C (pc := 60) inW_X0 0 3 rfl rfl (Nat.lt_of_lt_of_le (Nat.lt_succ_self _) (Nat.le_of_ble_eq_true rfl)) (ref := "WidowWatch$Book") tW_1_62 rfl rfl dX0_numberOf_60 ?_
    exact k_iret C (pc := 63) hr dX0_numberOf_63 ⟨rfl, H⟩
  by_cases c_1_4 : a1 = (4 : Int32)
  · have H := H.2.2.2.2.1 c_1_4
    refine k_tableIn C (pc := 1) (off := 63) (tgt := 64) dX0_numberOf_1 (by rw [c_1_4]; decide) (by rw [c_1_4]; decide) (by rw [c_1_4]; rfl) (by decide) ?_
    refine k_aload_n C 0 (pc := 64) dX0_numberOf_64 rfl rfl ?_
    refine k_get C (pc := 65) inW_X0 0 4 rfl rfl (Nat.lt_of_lt_of_le (Nat.lt_succ_self _) (Nat.le_of_ble_eq_true rfl)) (ref := "WidowWatch$Book") tW_1_65 rfl rfl dX0_numberOf_65 ?_
    exact k_iret C (pc := 68) hr dX0_numberOf_68 ⟨rfl, H⟩
  by_cases c_1_5 : a1 = (5 : Int32)
  · have H := H.2.2.2.2.2.1 c_1_5
    refine k_tableIn C (pc := 1) (off := 68) (tgt := 69) dX0_numberOf_1 (by rw [c_1_5]; decide) (by rw [c_1_5]; decide) (by rw [c_1_5]; rfl) (by decide) ?_
    refine k_aload_n C 0 (pc := 69) dX0_numberOf_69 rfl rfl ?_
    refine k_calli C (pc := 70) [0, 2] [1] (wc := [(h_t, .inr (0, [.int width, .int height, .int slack, .int limit, .int paragraphs, .ref h_t_costs, .ref h_t_rows])), (h_t_rows, .inl (cA 0, 544, .inl rows))]) (wr := [(h_t_costs, .inl (cA 0, 6, .inl costs))]) rfl rfl rfl rfl (by decide) (k_runV C (As := []) (rest := []) (ci := 0) (q0 := 0) (conX0_allWords l D cA h_t h_t_rows (.ref h_t_costs) width height slack limit paragraphs rows  _ H) ⟨k_cwB C tW_6_57 tW_6_54 tW_1_2 okX0_allWords rfl rfl ⟨Nat.le_of_ble_eq_true rfl, Nat.le_of_ble_eq_true rfl⟩, C.w tW_6_55, C.w tW_6_56⟩ rfl rfl rfl rfl rfl (Nat.le_of_ble_eq_true rfl) dX0_numberOf_70 ⟨Nat.le_of_ble_eq_true rfl, Nat.le_of_ble_eq_true rfl⟩) (fun r_1 w1_ hw_ => ?_)
    obtain ⟨rfl, H⟩ := hw_
    refine k_ws [1, 0, 2] (ws' := [(h_t, .inr (0, [.int width, .int height, .int slack, .int limit, .int paragraphs, .ref h_t_costs, .ref h_t_rows])), (h_t_costs, .inl (cA 0, 6, .inl costs)), (h_t_rows, .inl (cA 0, 544, .inl rows))]) rfl rfl ?_
    exact k_iret C (pc := 73) hr dX0_numberOf_73 ⟨rfl, H⟩
  by_cases c_1_6 : a1 = (6 : Int32)
  · have H := H.2.2.2.2.2.2.1 c_1_6
    refine k_tableIn C (pc := 1) (off := 73) (tgt := 74) dX0_numberOf_1 (by rw [c_1_6]; decide) (by rw [c_1_6]; decide) (by rw [c_1_6]; rfl) (by decide) ?_
    refine k_aload_n C 0 (pc := 74) dX0_numberOf_74 rfl rfl ?_
    refine k_calli C (pc := 75) [0, 2] [1] (wc := [(h_t, .inr (0, [.int width, .int height, .int slack, .int limit, .int paragraphs, .ref h_t_costs, .ref h_t_rows])), (h_t_rows, .inl (cA 0, 544, .inl rows))]) (wr := [(h_t_costs, .inl (cA 0, 6, .inl costs))]) rfl rfl rfl rfl (by decide) (k_runV C (As := []) (rest := []) (ci := 0) (q0 := 0) (conX0_allFixed l D cA h_t h_t_rows (.ref h_t_costs) width height slack limit paragraphs rows  _ H) ⟨k_cwB C tW_6_61 tW_6_58 tW_1_2 okX0_allFixed rfl rfl ⟨Nat.le_of_ble_eq_true rfl, Nat.le_of_ble_eq_true rfl⟩, C.w tW_6_59, C.w tW_6_60⟩ rfl rfl rfl rfl rfl (Nat.le_of_ble_eq_true rfl) dX0_numberOf_75 ⟨Nat.le_of_ble_eq_true rfl, Nat.le_of_ble_eq_true rfl⟩) (fun r_2 w1_ hw_ => ?_)
    obtain ⟨rfl, H⟩ := hw_
    refine k_ws [1, 0, 2] (ws' := [(h_t, .inr (0, [.int width, .int height, .int slack, .int limit, .int paragraphs, .ref h_t_costs, .ref h_t_rows])), (h_t_costs, .inl (cA 0, 6, .inl costs)), (h_t_rows, .inl (cA 0, 544, .inl rows))]) rfl rfl ?_
    exact k_iret C (pc := 78) hr dX0_numberOf_78 ⟨rfl, H⟩
  have H := H.2.2.2.2.2.2.2 ⟨c_1_0, c_1_1, c_1_2, c_1_3, c_1_4, c_1_5, c_1_6⟩
  refine k_tableOut C (pc := 1) (tgt := 79) dX0_numberOf_1 (k_out_0_6 c_1_0 c_1_1 c_1_2 c_1_3 c_1_4 c_1_5 c_1_6) (by decide) ?_
  refine k_aload_n C 0 (pc := 79) dX0_numberOf_79 rfl rfl ?_
  refine k_iload_n C 1 (pc := 80) dX0_numberOf_80 rfl rfl ?_
  refine k_bipush C (pc := 81) (v := (7 : Int32)) dX0_numberOf_81 (by decide) ?_
  refine k_isub C (pc := 83) dX0_numberOf_83 ?_
  refine k_calli C (pc := 84) [0, 1] [2] (wc := [(h_t, .inr (0, [.int width, .int height, .int slack, .int limit, .int paragraphs, .ref h_t_costs, .ref h_t_rows])), (h_t_costs, .inl (cA 0, 6, .inl costs))]) (wr := [(h_t_rows, .inl (cA 0, 544, .inl rows))]) rfl rfl rfl rfl (by decide) (k_runV C (As := [.int (a1 - (7 : Int32))]) (rest := []) (ci := 0) (q0 := 0) (conX0_costOf l D cA h_t h_t_costs (.ref h_t_rows) width height slack limit paragraphs costs (a1 - (7 : Int32))  _ H) ⟨k_cwB C tW_4_19 tW_4_16 tW_1_2 okX0_costOf rfl rfl ⟨Nat.le_of_ble_eq_true rfl, Nat.le_of_ble_eq_true rfl⟩, C.w tW_4_17, C.w tW_4_18⟩ rfl rfl rfl rfl rfl (Nat.le_of_ble_eq_true rfl) dX0_numberOf_84 ⟨Nat.le_of_ble_eq_true rfl, Nat.le_of_ble_eq_true rfl⟩) (fun r_3 w1_ hw_ => ?_)
  obtain ⟨rfl, H⟩ := hw_
  refine k_ws [1, 2, 0] (ws' := [(h_t, .inr (0, [.int width, .int height, .int slack, .int limit, .int paragraphs, .ref h_t_costs, .ref h_t_rows])), (h_t_costs, .inl (cA 0, 6, .inl costs)), (h_t_rows, .inl (cA 0, 544, .inl rows))]) rfl rfl ?_
  exact k_iret C (pc := 87) hr dX0_numberOf_87 ⟨rfl, H⟩
/-! WidowWatch$Book.longestWord()I -/
theorem dX0_longestWord_0 : decode cX0_longestWord 0 = .ok (.aload_n 0, 1) := by decide +kernel
theorem dX0_longestWord_1 : decode cX0_longestWord 1 = .ok (.getfield 21, 3) := by decide +kernel
theorem dX0_longestWord_4 : decode cX0_longestWord 4 = .ok (.aload_n 0, 1) := by decide +kernel
theorem dX0_longestWord_5 : decode cX0_longestWord 5 = .ok (.getfield 28, 3) := by decide +kernel
theorem dX0_longestWord_8 : decode cX0_longestWord 8 = .ok (.isub, 1) := by decide +kernel
theorem dX0_longestWord_9 : decode cX0_longestWord 9 = .ok (.ireturn, 1) := by decide +kernel
theorem okX0_longestWord : okY yX0_longestWord 0 := ⟨by decide +kernel, by decide +kernel, by decide +kernel⟩
def wpX0_longestWord (width : Int32) (slack : Int32) (Post : Int32 → Prop) : Prop := Post (width - slack)
set_option maxHeartbeats 4000000 in
set_option maxRecDepth 100000 in
theorem conX0_longestWord (l : Launch) (D : va_G) (cA : Nat → ClassId) (h_t : Nat) (u_t_costs u_t_rows : Value) (width : Int32) (height : Int32) (slack : Int32) (limit : Int32) (paragraphs : Int32) (Post : Int32 → Prop) (H : wpX0_longestWord width slack Post) : Con l D cA yX0_longestWord (wm yX0_longestWord cX0_longestWord 1 (some .int)) { frames := 0, cells := 0, slots := 0, locals := 0 } [(h_t, .inr (0, [.int width, .int height, .int slack, .int limit, .int paragraphs, u_t_costs, u_t_rows]))] [.ref h_t] 0 0 (PI (fun r w1 => w1 = [(h_t, .inr (0, [.int width, .int height, .int slack, .int limit, .int paragraphs, u_t_costs, u_t_rows]))] ∧ Post r)) := by
  refine Con.of (by decide) (Nat.le_of_ble_eq_true rfl) ?_
  intro p e s m args below meth c C hr hini
  refine k_eq (ws' := [(h_t, .inr (0, [.int width, .int height, .int slack, .int limit, .int paragraphs, u_t_costs, u_t_rows]))]) (lv' := [(0, .ref h_t)]) (st' := []) rfl rfl rfl ?_
  refine k_aload_n C 0 (pc := 0) dX0_longestWord_0 rfl rfl ?_
  refine k_get C (pc := 1) inW_X0 0 0 rfl rfl (Nat.lt_of_lt_of_le (Nat.lt_succ_self _) (Nat.le_of_ble_eq_true rfl)) (ref := "WidowWatch$Book") tW_1_54 rfl rfl dX0_longestWord_1 ?_
  refine k_aload_n C 0 (pc := 4) dX0_longestWord_4 rfl rfl ?_
  refine k_get C (pc := 5) inW_X0 0 2 rfl rfl (Nat.lt_of_lt_of_le (Nat.lt_succ_self _) (Nat.le_of_ble_eq_true rfl)) (ref := "WidowWatch$Book") tW_1_60 rfl rfl dX0_longestWord_5 ?_
  refine k_isub C (pc := 8) dX0_longestWord_8 ?_
  exact k_iret C (pc := 9) hr dX0_longestWord_9 ⟨rfl, H⟩
/-! WidowWatch$Book.lineHolds(I)I -/
theorem dX0_lineHolds_0 : decode cX0_lineHolds 0 = .ok (.iload_n 1, 1) := by decide +kernel
theorem dX0_lineHolds_1 : decode cX0_lineHolds 1 = .ok (.iconst 1, 1) := by decide +kernel
theorem dX0_lineHolds_2 : decode cX0_lineHolds 2 = .ok (.if_icmp .ne 15, 3) := by decide +kernel
theorem dX0_lineHolds_5 : decode cX0_lineHolds 5 = .ok (.aload_n 0, 1) := by decide +kernel
theorem dX0_lineHolds_6 : decode cX0_lineHolds 6 = .ok (.getfield 21, 3) := by decide +kernel
theorem dX0_lineHolds_9 : decode cX0_lineHolds 9 = .ok (.aload_n 0, 1) := by decide +kernel
theorem dX0_lineHolds_10 : decode cX0_lineHolds 10 = .ok (.getfield 28, 3) := by decide +kernel
theorem dX0_lineHolds_13 : decode cX0_lineHolds 13 = .ok (.iadd, 1) := by decide +kernel
theorem dX0_lineHolds_14 : decode cX0_lineHolds 14 = .ok (.goto 24, 3) := by decide +kernel
theorem dX0_lineHolds_17 : decode cX0_lineHolds 17 = .ok (.iload_n 1, 1) := by decide +kernel
theorem dX0_lineHolds_18 : decode cX0_lineHolds 18 = .ok (.iconst 2, 1) := by decide +kernel
theorem dX0_lineHolds_19 : decode cX0_lineHolds 19 = .ok (.if_icmp .ne 15, 3) := by decide +kernel
theorem dX0_lineHolds_22 : decode cX0_lineHolds 22 = .ok (.aload_n 0, 1) := by decide +kernel
theorem dX0_lineHolds_23 : decode cX0_lineHolds 23 = .ok (.getfield 21, 3) := by decide +kernel
theorem dX0_lineHolds_26 : decode cX0_lineHolds 26 = .ok (.aload_n 0, 1) := by decide +kernel
theorem dX0_lineHolds_27 : decode cX0_lineHolds 27 = .ok (.getfield 28, 3) := by decide +kernel
theorem dX0_lineHolds_30 : decode cX0_lineHolds 30 = .ok (.isub, 1) := by decide +kernel
theorem dX0_lineHolds_31 : decode cX0_lineHolds 31 = .ok (.goto 7, 3) := by decide +kernel
theorem dX0_lineHolds_34 : decode cX0_lineHolds 34 = .ok (.aload_n 0, 1) := by decide +kernel
theorem dX0_lineHolds_35 : decode cX0_lineHolds 35 = .ok (.getfield 21, 3) := by decide +kernel
theorem dX0_lineHolds_38 : decode cX0_lineHolds 38 = .ok (.ireturn, 1) := by decide +kernel
theorem okX0_lineHolds : okY yX0_lineHolds 1 := ⟨by decide +kernel, by decide +kernel, by decide +kernel⟩
def wpX0_lineHolds (width : Int32) (slack : Int32) (a1 : Int32) (Post : Int32 → Prop) : Prop := (¬ a1 = (1 : Int32) → (¬ a1 = (2 : Int32) → Post width) ∧ (a1 = (2 : Int32) → Post (width - slack))) ∧ (a1 = (1 : Int32) → Post (width + slack))
set_option maxHeartbeats 4000000 in
set_option maxRecDepth 100000 in
theorem conX0_lineHolds (l : Launch) (D : va_G) (cA : Nat → ClassId) (h_t : Nat) (u_t_costs u_t_rows : Value) (width : Int32) (height : Int32) (slack : Int32) (limit : Int32) (paragraphs : Int32) (a1 : Int32) (Post : Int32 → Prop) (H : wpX0_lineHolds width slack a1 Post) : Con l D cA yX0_lineHolds (wm yX0_lineHolds cX0_lineHolds 2 (some .int)) { frames := 0, cells := 0, slots := 0, locals := 0 } [(h_t, .inr (0, [.int width, .int height, .int slack, .int limit, .int paragraphs, u_t_costs, u_t_rows]))] [.ref h_t, .int a1] 0 0 (PI (fun r w1 => w1 = [(h_t, .inr (0, [.int width, .int height, .int slack, .int limit, .int paragraphs, u_t_costs, u_t_rows]))] ∧ Post r)) := by
  refine Con.of (by decide) (Nat.le_of_ble_eq_true rfl) ?_
  intro p e s m args below meth c C hr hini
  refine k_eq (ws' := [(h_t, .inr (0, [.int width, .int height, .int slack, .int limit, .int paragraphs, u_t_costs, u_t_rows]))]) (lv' := [(0, .ref h_t), (1, .int a1)]) (st' := []) rfl rfl rfl ?_
  refine k_iload_n C 1 (pc := 0) dX0_lineHolds_0 rfl rfl ?_
  refine k_iconst C (pc := 1) (v := (1 : Int32)) dX0_lineHolds_1 rfl ?_
  refine k_icmp_ne C (pc := 2) (tgt := 17) dX0_lineHolds_2 (by decide) (fun c_2 => ?_) (fun c_2 => ?_)
  · have H := H.1 c_2
    refine k_iload_n C 1 (pc := 17) dX0_lineHolds_17 rfl rfl ?_
    refine k_iconst C (pc := 18) (v := (2 : Int32)) dX0_lineHolds_18 rfl ?_
    refine k_icmp_ne C (pc := 19) (tgt := 34) dX0_lineHolds_19 (by decide) (fun c_19 => ?_) (fun c_19 => ?_)
    · have H := H.1 c_19
      refine k_aload_n C 0 (pc := 34) dX0_lineHolds_34 rfl rfl ?_
      refine k_get C (pc := 35) inW_X0 0 0 rfl rfl (Nat.lt_of_lt_of_le (Nat.lt_succ_self _) (Nat.le_of_ble_eq_true rfl)) (ref := "WidowWatch$Book") tW_1_54 rfl rfl dX0_lineHolds_35 ?_
      exact k_iret C (pc := 38) hr dX0_lineHolds_38 ⟨rfl, H⟩
    · have H := H.2 c_19
      refine k_aload_n C 0 (pc := 22) dX0_lineHolds_22 rfl rfl ?_
      refine k_get C (pc := 23) inW_X0 0 0 rfl rfl (Nat.lt_of_lt_of_le (Nat.lt_succ_self _) (Nat.le_of_ble_eq_true rfl)) (ref := "WidowWatch$Book") tW_1_54 rfl rfl dX0_lineHolds_23 ?_
      refine k_aload_n C 0 (pc := 26) dX0_lineHolds_26 rfl rfl ?_
      refine k_get C (pc := 27) inW_X0 0 2 rfl rfl (Nat.lt_of_lt_of_le (Nat.lt_succ_self _) (Nat.le_of_ble_eq_true rfl)) (ref := "WidowWatch$Book") tW_1_60 rfl rfl dX0_lineHolds_27 ?_
      refine k_isub C (pc := 30) dX0_lineHolds_30 ?_
      refine k_goto C (pc := 31) (tgt := 38) dX0_lineHolds_31 (by decide) ?_
      exact k_iret C (pc := 38) hr dX0_lineHolds_38 ⟨rfl, H⟩
  · have H := H.2 c_2
    refine k_aload_n C 0 (pc := 5) dX0_lineHolds_5 rfl rfl ?_
    refine k_get C (pc := 6) inW_X0 0 0 rfl rfl (Nat.lt_of_lt_of_le (Nat.lt_succ_self _) (Nat.le_of_ble_eq_true rfl)) (ref := "WidowWatch$Book") tW_1_54 rfl rfl dX0_lineHolds_6 ?_
    refine k_aload_n C 0 (pc := 9) dX0_lineHolds_9 rfl rfl ?_
    refine k_get C (pc := 10) inW_X0 0 2 rfl rfl (Nat.lt_of_lt_of_le (Nat.lt_succ_self _) (Nat.le_of_ble_eq_true rfl)) (ref := "WidowWatch$Book") tW_1_60 rfl rfl dX0_lineHolds_10 ?_
    refine k_iadd C (pc := 13) dX0_lineHolds_13 ?_
    refine k_goto C (pc := 14) (tgt := 38) dX0_lineHolds_14 (by decide) ?_
    exact k_iret C (pc := 38) hr dX0_lineHolds_38 ⟨rfl, H⟩
/-! WidowWatch$Book.wordAt(II)I -/
theorem dX0_wordAt_0 : decode cX0_wordAt 0 = .ok (.aload_n 0, 1) := by decide +kernel
theorem dX0_wordAt_1 : decode cX0_wordAt 1 = .ok (.getfield 15, 3) := by decide +kernel
theorem dX0_wordAt_4 : decode cX0_wordAt 4 = .ok (.iload_n 1, 1) := by decide +kernel
theorem dX0_wordAt_5 : decode cX0_wordAt 5 = .ok (.bipush 34, 2) := by decide +kernel
theorem dX0_wordAt_7 : decode cX0_wordAt 7 = .ok (.imul, 1) := by decide +kernel
theorem dX0_wordAt_8 : decode cX0_wordAt 8 = .ok (.iconst 4, 1) := by decide +kernel
theorem dX0_wordAt_9 : decode cX0_wordAt 9 = .ok (.iadd, 1) := by decide +kernel
theorem dX0_wordAt_10 : decode cX0_wordAt 10 = .ok (.iload_n 2, 1) := by decide +kernel
theorem dX0_wordAt_11 : decode cX0_wordAt 11 = .ok (.iadd, 1) := by decide +kernel
theorem dX0_wordAt_12 : decode cX0_wordAt 12 = .ok (.invokestatic 61, 3) := by decide +kernel
theorem dX0_wordAt_15 : decode cX0_wordAt 15 = .ok (.ireturn, 1) := by decide +kernel
theorem okX0_wordAt : okY yX0_wordAt 2 := ⟨by decide +kernel, by decide +kernel, by decide +kernel⟩
def wpX0_wordAt (rows : Nat → Int32) (a1 : Int32) (a2 : Int32) (Post : Int32 → Prop) : Prop := wpX6_get 544 rows (((a1 * (34 : Int32)) + (4 : Int32)) + a2) (fun r_1 => Post r_1)
set_option maxHeartbeats 4000000 in
set_option maxRecDepth 100000 in
theorem conX0_wordAt (l : Launch) (D : va_G) (cA : Nat → ClassId) (h_t h_t_rows : Nat) (u_t_costs : Value) (width : Int32) (height : Int32) (slack : Int32) (limit : Int32) (paragraphs : Int32) (rows : Nat → Int32) (a1 : Int32) (a2 : Int32) (Post : Int32 → Prop) (H : wpX0_wordAt rows a1 a2 Post) : Con l D cA yX0_wordAt (wm yX0_wordAt cX0_wordAt 3 (some .int)) { frames := 1, cells := 0, slots := 0, locals := 21 } [(h_t, .inr (0, [.int width, .int height, .int slack, .int limit, .int paragraphs, u_t_costs, .ref h_t_rows])), (h_t_rows, .inl (cA 0, 544, .inl rows))] [.ref h_t, .int a1, .int a2] 0 0 (PI (fun r w1 => w1 = [(h_t, .inr (0, [.int width, .int height, .int slack, .int limit, .int paragraphs, u_t_costs, .ref h_t_rows])), (h_t_rows, .inl (cA 0, 544, .inl rows))] ∧ Post r)) := by
  refine Con.of (by decide) (Nat.le_of_ble_eq_true rfl) ?_
  intro p e s m args below meth c C hr hini
  refine k_eq (ws' := [(h_t, .inr (0, [.int width, .int height, .int slack, .int limit, .int paragraphs, u_t_costs, .ref h_t_rows])), (h_t_rows, .inl (cA 0, 544, .inl rows))]) (lv' := [(0, .ref h_t), (1, .int a1), (2, .int a2)]) (st' := []) rfl rfl rfl ?_
  refine k_aload_n C 0 (pc := 0) dX0_wordAt_0 rfl rfl ?_
  refine k_get C (pc := 1) inW_X0 0 6 rfl rfl (Nat.lt_of_lt_of_le (Nat.lt_succ_self _) (Nat.le_of_ble_eq_true rfl)) (ref := "WidowWatch$Book") tW_1_70 rfl rfl dX0_wordAt_1 ?_
  refine k_iload_n C 1 (pc := 4) dX0_wordAt_4 rfl rfl ?_
  refine k_bipush C (pc := 5) (v := (34 : Int32)) dX0_wordAt_5 (by decide) ?_
  refine k_imul C (pc := 7) dX0_wordAt_7 ?_
  refine k_iconst C (pc := 8) (v := (4 : Int32)) dX0_wordAt_8 rfl ?_
  refine k_iadd C (pc := 9) dX0_wordAt_9 ?_
  refine k_iload_n C 2 (pc := 10) dX0_wordAt_10 rfl rfl ?_
  refine k_iadd C (pc := 11) dX0_wordAt_11 ?_
  refine k_calli C (pc := 12) [1] [0] (wc := [(h_t_rows, .inl (cA 0, 544, .inl rows))]) (wr := [(h_t, .inr (0, [.int width, .int height, .int slack, .int limit, .int paragraphs, u_t_costs, .ref h_t_rows]))]) rfl rfl rfl rfl (by decide) (k_runSN C (As := [.ref h_t_rows, .int (((a1 * (34 : Int32)) + (4 : Int32)) + a2)]) (rest := []) (conX6_get l D cA h_t_rows 544 rows (((a1 * (34 : Int32)) + (4 : Int32)) + a2)  _ H) ⟨k_cwN C tW_2_46 (k_n6 C) tW_1_1 okX6_get rfl rfl ⟨Nat.le_of_ble_eq_true rfl, Nat.le_of_ble_eq_true rfl⟩, C.w tW_2_45, trivial⟩ rfl rfl (Nat.le_of_ble_eq_true rfl) dX0_wordAt_12 ⟨Nat.le_of_ble_eq_true rfl, Nat.le_of_ble_eq_true rfl⟩) (fun r_1 w1_ hw_ => ?_)
  obtain ⟨rfl, H⟩ := hw_
  refine k_ws [0, 1] (ws' := [(h_t, .inr (0, [.int width, .int height, .int slack, .int limit, .int paragraphs, u_t_costs, .ref h_t_rows])), (h_t_rows, .inl (cA 0, 544, .inl rows))]) rfl rfl ?_
  exact k_iret C (pc := 15) hr dX0_wordAt_15 ⟨rfl, H⟩
/-! WidowWatch$Book.isHeading(I)Z -/
theorem dX0_isHeading_0 : decode cX0_isHeading 0 = .ok (.aload_n 0, 1) := by decide +kernel
theorem dX0_isHeading_1 : decode cX0_isHeading 1 = .ok (.getfield 15, 3) := by decide +kernel
theorem dX0_isHeading_4 : decode cX0_isHeading 4 = .ok (.iload_n 1, 1) := by decide +kernel
theorem dX0_isHeading_5 : decode cX0_isHeading 5 = .ok (.bipush 34, 2) := by decide +kernel
theorem dX0_isHeading_7 : decode cX0_isHeading 7 = .ok (.imul, 1) := by decide +kernel
theorem dX0_isHeading_8 : decode cX0_isHeading 8 = .ok (.iconst 1, 1) := by decide +kernel
theorem dX0_isHeading_9 : decode cX0_isHeading 9 = .ok (.iadd, 1) := by decide +kernel
theorem dX0_isHeading_10 : decode cX0_isHeading 10 = .ok (.invokestatic 61, 3) := by decide +kernel
theorem dX0_isHeading_13 : decode cX0_isHeading 13 = .ok (.iconst 1, 1) := by decide +kernel
theorem dX0_isHeading_14 : decode cX0_isHeading 14 = .ok (.if_icmp .ne 7, 3) := by decide +kernel
theorem dX0_isHeading_17 : decode cX0_isHeading 17 = .ok (.iconst 1, 1) := by decide +kernel
theorem dX0_isHeading_18 : decode cX0_isHeading 18 = .ok (.goto 4, 3) := by decide +kernel
theorem dX0_isHeading_21 : decode cX0_isHeading 21 = .ok (.iconst 0, 1) := by decide +kernel
theorem dX0_isHeading_22 : decode cX0_isHeading 22 = .ok (.ireturn, 1) := by decide +kernel
theorem okX0_isHeading : okY yX0_isHeading 1 := ⟨by decide +kernel, by decide +kernel, by decide +kernel⟩
def wpX0_isHeading (rows : Nat → Int32) (a1 : Int32) (Post : Int32 → Prop) : Prop := wpX6_get 544 rows ((a1 * (34 : Int32)) + (1 : Int32)) (fun r_1 => (¬ r_1 = (1 : Int32) → Post (0 : Int32)) ∧ (r_1 = (1 : Int32) → Post (1 : Int32)))
set_option maxHeartbeats 4000000 in
set_option maxRecDepth 100000 in
theorem conX0_isHeading (l : Launch) (D : va_G) (cA : Nat → ClassId) (h_t h_t_rows : Nat) (u_t_costs : Value) (width : Int32) (height : Int32) (slack : Int32) (limit : Int32) (paragraphs : Int32) (rows : Nat → Int32) (a1 : Int32) (Post : Int32 → Prop) (H : wpX0_isHeading rows a1 Post) : Con l D cA yX0_isHeading (wm yX0_isHeading cX0_isHeading 2 (some .boolean)) { frames := 1, cells := 0, slots := 0, locals := 21 } [(h_t, .inr (0, [.int width, .int height, .int slack, .int limit, .int paragraphs, u_t_costs, .ref h_t_rows])), (h_t_rows, .inl (cA 0, 544, .inl rows))] [.ref h_t, .int a1] 0 0 (PI (fun r w1 => w1 = [(h_t, .inr (0, [.int width, .int height, .int slack, .int limit, .int paragraphs, u_t_costs, .ref h_t_rows])), (h_t_rows, .inl (cA 0, 544, .inl rows))] ∧ Post r)) := by
  refine Con.of (by decide) (Nat.le_of_ble_eq_true rfl) ?_
  intro p e s m args below meth c C hr hini
  refine k_eq (ws' := [(h_t, .inr (0, [.int width, .int height, .int slack, .int limit, .int paragraphs, u_t_costs, .ref h_t_rows])), (h_t_rows, .inl (cA 0, 544, .inl rows))]) (lv' := [(0, .ref h_t), (1, .int a1)]) (st' := []) rfl rfl rfl ?_
  refine k_aload_n C 0 (pc := 0) dX0_isHeading_0 rfl rfl ?_
  refine k_get C (pc := 1) inW_X0 0 6 rfl rfl (Nat.lt_of_lt_of_le (Nat.lt_succ_self _) (Nat.le_of_ble_eq_true rfl)) (ref := "WidowWatch$Book") tW_1_70 rfl rfl dX0_isHeading_1 ?_
  refine k_iload_n C 1 (pc := 4) dX0_isHeading_4 rfl rfl ?_
  refine k_bipush C (pc := 5) (v := (34 : Int32)) dX0_isHeading_5 (by decide) ?_
  refine k_imul C (pc := 7) dX0_isHeading_7 ?_
  refine k_iconst C (pc := 8) (v := (1 : Int32)) dX0_isHeading_8 rfl ?_
  refine k_iadd C (pc := 9) dX0_isHeading_9 ?_
  refine k_calli C (pc := 10) [1] [0] (wc := [(h_t_rows, .inl (cA 0, 544, .inl rows))]) (wr := [(h_t, .inr (0, [.int width, .int height, .int slack, .int limit, .int paragraphs, u_t_costs, .ref h_t_rows]))]) rfl rfl rfl rfl (by decide) (k_runSN C (As := [.ref h_t_rows, .int ((a1 * (34 : Int32)) + (1 : Int32))]) (rest := []) (conX6_get l D cA h_t_rows 544 rows ((a1 * (34 : Int32)) + (1 : Int32))  _ H) ⟨k_cwN C tW_2_46 (k_n6 C) tW_1_1 okX6_get rfl rfl ⟨Nat.le_of_ble_eq_true rfl, Nat.le_of_ble_eq_true rfl⟩, C.w tW_2_45, trivial⟩ rfl rfl (Nat.le_of_ble_eq_true rfl) dX0_isHeading_10 ⟨Nat.le_of_ble_eq_true rfl, Nat.le_of_ble_eq_true rfl⟩) (fun r_1 w1_ hw_ => ?_)
  obtain ⟨rfl, H⟩ := hw_
  refine k_ws [0, 1] (ws' := [(h_t, .inr (0, [.int width, .int height, .int slack, .int limit, .int paragraphs, u_t_costs, .ref h_t_rows])), (h_t_rows, .inl (cA 0, 544, .inl rows))]) rfl rfl ?_
  refine k_iconst C (pc := 13) (v := (1 : Int32)) dX0_isHeading_13 rfl ?_
  refine k_icmp_ne C (pc := 14) (tgt := 21) dX0_isHeading_14 (by decide) (fun c_14 => ?_) (fun c_14 => ?_)
  · have H := H.1 c_14
    refine k_iconst C (pc := 21) (v := (0 : Int32)) dX0_isHeading_21 rfl ?_
    exact k_zret C (pc := 22) hr rfl dX0_isHeading_22 ⟨rfl, H⟩
  · have H := H.2 c_14
    refine k_iconst C (pc := 17) (v := (1 : Int32)) dX0_isHeading_17 rfl ?_
    refine k_goto C (pc := 18) (tgt := 22) dX0_isHeading_18 (by decide) ?_
    exact k_zret C (pc := 22) hr rfl dX0_isHeading_22 ⟨rfl, H⟩
/-! WidowWatch$Book.beginsPage(I)Z -/
theorem dX0_beginsPage_0 : decode cX0_beginsPage 0 = .ok (.aload_n 0, 1) := by decide +kernel
theorem dX0_beginsPage_1 : decode cX0_beginsPage 1 = .ok (.getfield 15, 3) := by decide +kernel
theorem dX0_beginsPage_4 : decode cX0_beginsPage 4 = .ok (.iload_n 1, 1) := by decide +kernel
theorem dX0_beginsPage_5 : decode cX0_beginsPage 5 = .ok (.bipush 34, 2) := by decide +kernel
theorem dX0_beginsPage_7 : decode cX0_beginsPage 7 = .ok (.imul, 1) := by decide +kernel
theorem dX0_beginsPage_8 : decode cX0_beginsPage 8 = .ok (.iconst 2, 1) := by decide +kernel
theorem dX0_beginsPage_9 : decode cX0_beginsPage 9 = .ok (.iadd, 1) := by decide +kernel
theorem dX0_beginsPage_10 : decode cX0_beginsPage 10 = .ok (.invokestatic 61, 3) := by decide +kernel
theorem dX0_beginsPage_13 : decode cX0_beginsPage 13 = .ok (.iconst 1, 1) := by decide +kernel
theorem dX0_beginsPage_14 : decode cX0_beginsPage 14 = .ok (.if_icmp .ne 7, 3) := by decide +kernel
theorem dX0_beginsPage_17 : decode cX0_beginsPage 17 = .ok (.iconst 1, 1) := by decide +kernel
theorem dX0_beginsPage_18 : decode cX0_beginsPage 18 = .ok (.goto 4, 3) := by decide +kernel
theorem dX0_beginsPage_21 : decode cX0_beginsPage 21 = .ok (.iconst 0, 1) := by decide +kernel
theorem dX0_beginsPage_22 : decode cX0_beginsPage 22 = .ok (.ireturn, 1) := by decide +kernel
theorem okX0_beginsPage : okY yX0_beginsPage 1 := ⟨by decide +kernel, by decide +kernel, by decide +kernel⟩
def wpX0_beginsPage (rows : Nat → Int32) (a1 : Int32) (Post : Int32 → Prop) : Prop := wpX6_get 544 rows ((a1 * (34 : Int32)) + (2 : Int32)) (fun r_1 => (¬ r_1 = (1 : Int32) → Post (0 : Int32)) ∧ (r_1 = (1 : Int32) → Post (1 : Int32)))
set_option maxHeartbeats 4000000 in
set_option maxRecDepth 100000 in
theorem conX0_beginsPage (l : Launch) (D : va_G) (cA : Nat → ClassId) (h_t h_t_rows : Nat) (u_t_costs : Value) (width : Int32) (height : Int32) (slack : Int32) (limit : Int32) (paragraphs : Int32) (rows : Nat → Int32) (a1 : Int32) (Post : Int32 → Prop) (H : wpX0_beginsPage rows a1 Post) : Con l D cA yX0_beginsPage (wm yX0_beginsPage cX0_beginsPage 2 (some .boolean)) { frames := 1, cells := 0, slots := 0, locals := 21 } [(h_t, .inr (0, [.int width, .int height, .int slack, .int limit, .int paragraphs, u_t_costs, .ref h_t_rows])), (h_t_rows, .inl (cA 0, 544, .inl rows))] [.ref h_t, .int a1] 0 0 (PI (fun r w1 => w1 = [(h_t, .inr (0, [.int width, .int height, .int slack, .int limit, .int paragraphs, u_t_costs, .ref h_t_rows])), (h_t_rows, .inl (cA 0, 544, .inl rows))] ∧ Post r)) := by
  refine Con.of (by decide) (Nat.le_of_ble_eq_true rfl) ?_
  intro p e s m args below meth c C hr hini
  refine k_eq (ws' := [(h_t, .inr (0, [.int width, .int height, .int slack, .int limit, .int paragraphs, u_t_costs, .ref h_t_rows])), (h_t_rows, .inl (cA 0, 544, .inl rows))]) (lv' := [(0, .ref h_t), (1, .int a1)]) (st' := []) rfl rfl rfl ?_
  refine k_aload_n C 0 (pc := 0) dX0_beginsPage_0 rfl rfl ?_
  refine k_get C (pc := 1) inW_X0 0 6 rfl rfl (Nat.lt_of_lt_of_le (Nat.lt_succ_self _) (Nat.le_of_ble_eq_true rfl)) (ref := "WidowWatch$Book") tW_1_70 rfl rfl dX0_beginsPage_1 ?_
  refine k_iload_n C 1 (pc := 4) dX0_beginsPage_4 rfl rfl ?_
  refine k_bipush C (pc := 5) (v := (34 : Int32)) dX0_beginsPage_5 (by decide) ?_
  refine k_imul C (pc := 7) dX0_beginsPage_7 ?_
  refine k_iconst C (pc := 8) (v := (2 : Int32)) dX0_beginsPage_8 rfl ?_
  refine k_iadd C (pc := 9) dX0_beginsPage_9 ?_
  refine k_calli C (pc := 10) [1] [0] (wc := [(h_t_rows, .inl (cA 0, 544, .inl rows))]) (wr := [(h_t, .inr (0, [.int width, .int height, .int slack, .int limit, .int paragraphs, u_t_costs, .ref h_t_rows]))]) rfl rfl rfl rfl (by decide) (k_runSN C (As := [.ref h_t_rows, .int ((a1 * (34 : Int32)) + (2 : Int32))]) (rest := []) (conX6_get l D cA h_t_rows 544 rows ((a1 * (34 : Int32)) + (2 : Int32))  _ H) ⟨k_cwN C tW_2_46 (k_n6 C) tW_1_1 okX6_get rfl rfl ⟨Nat.le_of_ble_eq_true rfl, Nat.le_of_ble_eq_true rfl⟩, C.w tW_2_45, trivial⟩ rfl rfl (Nat.le_of_ble_eq_true rfl) dX0_beginsPage_10 ⟨Nat.le_of_ble_eq_true rfl, Nat.le_of_ble_eq_true rfl⟩) (fun r_1 w1_ hw_ => ?_)
  obtain ⟨rfl, H⟩ := hw_
  refine k_ws [0, 1] (ws' := [(h_t, .inr (0, [.int width, .int height, .int slack, .int limit, .int paragraphs, u_t_costs, .ref h_t_rows])), (h_t_rows, .inl (cA 0, 544, .inl rows))]) rfl rfl ?_
  refine k_iconst C (pc := 13) (v := (1 : Int32)) dX0_beginsPage_13 rfl ?_
  refine k_icmp_ne C (pc := 14) (tgt := 21) dX0_beginsPage_14 (by decide) (fun c_14 => ?_) (fun c_14 => ?_)
  · have H := H.1 c_14
    refine k_iconst C (pc := 21) (v := (0 : Int32)) dX0_beginsPage_21 rfl ?_
    exact k_zret C (pc := 22) hr rfl dX0_beginsPage_22 ⟨rfl, H⟩
  · have H := H.2 c_14
    refine k_iconst C (pc := 17) (v := (1 : Int32)) dX0_beginsPage_17 rfl ?_
    refine k_goto C (pc := 18) (tgt := 22) dX0_beginsPage_18 (by decide) ?_
    exact k_zret C (pc := 22) hr rfl dX0_beginsPage_22 ⟨rfl, H⟩
/-! WidowWatch$Book.setBeginsPage(IZ)V -/
theorem dX0_setBeginsPage_0 : decode cX0_setBeginsPage 0 = .ok (.aload_n 0, 1) := by decide +kernel
theorem dX0_setBeginsPage_1 : decode cX0_setBeginsPage 1 = .ok (.getfield 15, 3) := by decide +kernel
theorem dX0_setBeginsPage_4 : decode cX0_setBeginsPage 4 = .ok (.iload_n 1, 1) := by decide +kernel
theorem dX0_setBeginsPage_5 : decode cX0_setBeginsPage 5 = .ok (.bipush 34, 2) := by decide +kernel
theorem dX0_setBeginsPage_7 : decode cX0_setBeginsPage 7 = .ok (.imul, 1) := by decide +kernel
theorem dX0_setBeginsPage_8 : decode cX0_setBeginsPage 8 = .ok (.iconst 2, 1) := by decide +kernel
theorem dX0_setBeginsPage_9 : decode cX0_setBeginsPage 9 = .ok (.iadd, 1) := by decide +kernel
theorem dX0_setBeginsPage_10 : decode cX0_setBeginsPage 10 = .ok (.iload_n 2, 1) := by decide +kernel
theorem dX0_setBeginsPage_11 : decode cX0_setBeginsPage 11 = .ok (.ifCond .eq 7, 3) := by decide +kernel
theorem dX0_setBeginsPage_14 : decode cX0_setBeginsPage 14 = .ok (.iconst 1, 1) := by decide +kernel
theorem dX0_setBeginsPage_15 : decode cX0_setBeginsPage 15 = .ok (.goto 4, 3) := by decide +kernel
theorem dX0_setBeginsPage_18 : decode cX0_setBeginsPage 18 = .ok (.iconst 0, 1) := by decide +kernel
theorem dX0_setBeginsPage_19 : decode cX0_setBeginsPage 19 = .ok (.invokestatic 65, 3) := by decide +kernel
theorem dX0_setBeginsPage_22 : decode cX0_setBeginsPage 22 = .ok (.return_, 1) := by decide +kernel
theorem okX0_setBeginsPage : okY yX0_setBeginsPage 2 := ⟨by decide +kernel, by decide +kernel, by decide +kernel⟩
def wpX0_setBeginsPage_b19 (a1 : Int32) (a2 : Int32) (Post : (Nat → Int32) → Prop)  (rows_v : Nat → Int32) (s1 : Int32) (s2 : Int32) : Prop := wpX6_put 544 rows_v s1 s2 (fun rows_1 => Post rows_1)
def wpX0_setBeginsPage (rows : Nat → Int32) (a1 : Int32) (a2 : Int32) (Post : (Nat → Int32) → Prop) : Prop := (a2 = 0 → wpX0_setBeginsPage_b19 a1 a2 Post  rows ((a1 * (34 : Int32)) + (2 : Int32)) (0 : Int32)) ∧ (¬ a2 = 0 → wpX0_setBeginsPage_b19 a1 a2 Post  rows ((a1 * (34 : Int32)) + (2 : Int32)) (1 : Int32))
set_option maxHeartbeats 4000000 in
set_option maxRecDepth 100000 in
theorem conX0_setBeginsPage (l : Launch) (D : va_G) (cA : Nat → ClassId) (h_t h_t_rows : Nat) (u_t_costs : Value) (width : Int32) (height : Int32) (slack : Int32) (limit : Int32) (paragraphs : Int32) (rows : Nat → Int32) (a1 : Int32) (a2 : Int32) (Post : (Nat → Int32) → Prop) (H : wpX0_setBeginsPage rows a1 a2 Post) : Con l D cA yX0_setBeginsPage (wm yX0_setBeginsPage cX0_setBeginsPage 3 none) { frames := 1, cells := 0, slots := 0, locals := 22 } [(h_t, .inr (0, [.int width, .int height, .int slack, .int limit, .int paragraphs, u_t_costs, .ref h_t_rows])), (h_t_rows, .inl (cA 0, 544, .inl rows))] [.ref h_t, .int a1, .int a2] 0 0 (PV (fun w1 => ∃ (rows' : Nat → Int32), w1 = [(h_t, .inr (0, [.int width, .int height, .int slack, .int limit, .int paragraphs, u_t_costs, .ref h_t_rows])), (h_t_rows, .inl (cA 0, 544, .inl (rows')))] ∧ Post rows')) := by
  refine Con.of (by decide) (Nat.le_of_ble_eq_true rfl) ?_
  intro p e s m args below meth c C hr hini
  have B19 : ∀  (rows_v : Nat → Int32) (s1 : Int32) (s2 : Int32), wpX0_setBeginsPage_b19 a1 a2 Post  rows_v s1 s2 → Kf p l e { frames := 1, cells := 0, slots := 0, locals := 22 } s m args below meth c D (va_A [(h_t, .inr (0, [.int width, .int height, .int slack, .int limit, .int paragraphs, u_t_costs, .ref h_t_rows])), (h_t_rows, .inl (cA 0, 544, .inl rows))] s.heap.size) 3 0 0 (MQ below (QC D [(h_t, .inr (0, [.int width, .int height, .int slack, .int limit, .int paragraphs, u_t_costs, .ref h_t_rows])), (h_t_rows, .inl (cA 0, 544, .inl rows))] s.heap.size (PV (fun w1 => ∃ (rows' : Nat → Int32), w1 = [(h_t, .inr (0, [.int width, .int height, .int slack, .int limit, .int paragraphs, u_t_costs, .ref h_t_rows])), (h_t_rows, .inl (cA 0, 544, .inl (rows')))] ∧ Post rows'))) args s 0 0 (va_A [(h_t, .inr (0, [.int width, .int height, .int slack, .int limit, .int paragraphs, u_t_costs, .ref h_t_rows])), (h_t_rows, .inl (cA 0, 544, .inl rows))] s.heap.size)) [(h_t, .inr (0, [.int width, .int height, .int slack, .int limit, .int paragraphs, u_t_costs, .ref h_t_rows])), (h_t_rows, .inl (cA 0, 544, .inl rows_v))] 19 [] [.int s2, .int s1, .ref h_t_rows] := by
    intro  rows_v s1 s2 H
    refine k_callv C (pc := 19) [1] [0] (wc := [(h_t_rows, .inl (cA 0, 544, .inl rows_v))]) (wr := [(h_t, .inr (0, [.int width, .int height, .int slack, .int limit, .int paragraphs, u_t_costs, .ref h_t_rows]))]) rfl rfl rfl rfl (by decide) (k_runSN C (As := [.ref h_t_rows, .int s1, .int s2]) (rest := []) (conX6_put l D cA h_t_rows 544 rows_v s1 s2  _ H) ⟨k_cwN C tW_2_53 (k_n13 C) tW_1_1 okX6_put rfl rfl ⟨Nat.le_of_ble_eq_true rfl, Nat.le_of_ble_eq_true rfl⟩, C.w tW_2_52, trivial⟩ rfl rfl (Nat.le_of_ble_eq_true rfl) dX0_setBeginsPage_19 ⟨Nat.le_of_ble_eq_true rfl, Nat.le_of_ble_eq_true rfl⟩) (fun w1_ hw_ => ?_)
    obtain ⟨rows_1, rfl, H⟩ := hw_
    refine k_ws [0, 1] (ws' := [(h_t, .inr (0, [.int width, .int height, .int slack, .int limit, .int paragraphs, u_t_costs, .ref h_t_rows])), (h_t_rows, .inl (cA 0, 544, .inl rows_1))]) rfl rfl ?_
    exact k_vret C (pc := 22) hr dX0_setBeginsPage_22 ⟨_, rfl, H⟩
  refine k_eq (ws' := [(h_t, .inr (0, [.int width, .int height, .int slack, .int limit, .int paragraphs, u_t_costs, .ref h_t_rows])), (h_t_rows, .inl (cA 0, 544, .inl rows))]) (lv' := [(0, .ref h_t), (1, .int a1), (2, .int a2)]) (st' := []) rfl rfl rfl ?_
  refine k_aload_n C 0 (pc := 0) dX0_setBeginsPage_0 rfl rfl ?_
  refine k_get C (pc := 1) inW_X0 0 6 rfl rfl (Nat.lt_of_lt_of_le (Nat.lt_succ_self _) (Nat.le_of_ble_eq_true rfl)) (ref := "WidowWatch$Book") tW_1_70 rfl rfl dX0_setBeginsPage_1 ?_
  refine k_iload_n C 1 (pc := 4) dX0_setBeginsPage_4 rfl rfl ?_
  refine k_bipush C (pc := 5) (v := (34 : Int32)) dX0_setBeginsPage_5 (by decide) ?_
  refine k_imul C (pc := 7) dX0_setBeginsPage_7 ?_
  refine k_iconst C (pc := 8) (v := (2 : Int32)) dX0_setBeginsPage_8 rfl ?_
  refine k_iadd C (pc := 9) dX0_setBeginsPage_9 ?_
  refine k_iload_n C 2 (pc := 10) dX0_setBeginsPage_10 rfl rfl ?_
  refine k_if_eq C (pc := 11) (tgt := 18) dX0_setBeginsPage_11 (by decide) (fun c_11 => ?_) (fun c_11 => ?_)
  · have H := H.1 c_11
    refine k_iconst C (pc := 18) (v := (0 : Int32)) dX0_setBeginsPage_18 rfl ?_
    refine k_lv (pc := 19) [] (lv' := []) rfl ?_
    exact B19  rows ((a1 * (34 : Int32)) + (2 : Int32)) (0 : Int32) H
  · have H := H.2 c_11
    refine k_iconst C (pc := 14) (v := (1 : Int32)) dX0_setBeginsPage_14 rfl ?_
    refine k_goto C (pc := 15) (tgt := 19) dX0_setBeginsPage_15 (by decide) ?_
    refine k_lv (pc := 19) [] (lv' := []) rfl ?_
    exact B19  rows ((a1 * (34 : Int32)) + (2 : Int32)) (1 : Int32) H
/-! WidowWatch$Book.fixTo(II)V -/
theorem dX0_fixTo_0 : decode cX0_fixTo 0 = .ok (.aload_n 0, 1) := by decide +kernel
theorem dX0_fixTo_1 : decode cX0_fixTo 1 = .ok (.getfield 15, 3) := by decide +kernel
theorem dX0_fixTo_4 : decode cX0_fixTo 4 = .ok (.iload_n 1, 1) := by decide +kernel
theorem dX0_fixTo_5 : decode cX0_fixTo 5 = .ok (.bipush 34, 2) := by decide +kernel
theorem dX0_fixTo_7 : decode cX0_fixTo 7 = .ok (.imul, 1) := by decide +kernel
theorem dX0_fixTo_8 : decode cX0_fixTo 8 = .ok (.iconst 3, 1) := by decide +kernel
theorem dX0_fixTo_9 : decode cX0_fixTo 9 = .ok (.iadd, 1) := by decide +kernel
theorem dX0_fixTo_10 : decode cX0_fixTo 10 = .ok (.iload_n 2, 1) := by decide +kernel
theorem dX0_fixTo_11 : decode cX0_fixTo 11 = .ok (.invokestatic 65, 3) := by decide +kernel
theorem dX0_fixTo_14 : decode cX0_fixTo 14 = .ok (.return_, 1) := by decide +kernel
theorem okX0_fixTo : okY yX0_fixTo 2 := ⟨by decide +kernel, by decide +kernel, by decide +kernel⟩
def wpX0_fixTo (rows : Nat → Int32) (a1 : Int32) (a2 : Int32) (Post : (Nat → Int32) → Prop) : Prop := wpX6_put 544 rows ((a1 * (34 : Int32)) + (3 : Int32)) a2 (fun rows_1 => Post rows_1)
set_option maxHeartbeats 4000000 in
set_option maxRecDepth 100000 in
theorem conX0_fixTo (l : Launch) (D : va_G) (cA : Nat → ClassId) (h_t h_t_rows : Nat) (u_t_costs : Value) (width : Int32) (height : Int32) (slack : Int32) (limit : Int32) (paragraphs : Int32) (rows : Nat → Int32) (a1 : Int32) (a2 : Int32) (Post : (Nat → Int32) → Prop) (H : wpX0_fixTo rows a1 a2 Post) : Con l D cA yX0_fixTo (wm yX0_fixTo cX0_fixTo 3 none) { frames := 1, cells := 0, slots := 0, locals := 22 } [(h_t, .inr (0, [.int width, .int height, .int slack, .int limit, .int paragraphs, u_t_costs, .ref h_t_rows])), (h_t_rows, .inl (cA 0, 544, .inl rows))] [.ref h_t, .int a1, .int a2] 0 0 (PV (fun w1 => ∃ (rows' : Nat → Int32), w1 = [(h_t, .inr (0, [.int width, .int height, .int slack, .int limit, .int paragraphs, u_t_costs, .ref h_t_rows])), (h_t_rows, .inl (cA 0, 544, .inl (rows')))] ∧ Post rows')) := by
  refine Con.of (by decide) (Nat.le_of_ble_eq_true rfl) ?_
  intro p e s m args below meth c C hr hini
  refine k_eq (ws' := [(h_t, .inr (0, [.int width, .int height, .int slack, .int limit, .int paragraphs, u_t_costs, .ref h_t_rows])), (h_t_rows, .inl (cA 0, 544, .inl rows))]) (lv' := [(0, .ref h_t), (1, .int a1), (2, .int a2)]) (st' := []) rfl rfl rfl ?_
  refine k_aload_n C 0 (pc := 0) dX0_fixTo_0 rfl rfl ?_
  refine k_get C (pc := 1) inW_X0 0 6 rfl rfl (Nat.lt_of_lt_of_le (Nat.lt_succ_self _) (Nat.le_of_ble_eq_true rfl)) (ref := "WidowWatch$Book") tW_1_70 rfl rfl dX0_fixTo_1 ?_
  refine k_iload_n C 1 (pc := 4) dX0_fixTo_4 rfl rfl ?_
  refine k_bipush C (pc := 5) (v := (34 : Int32)) dX0_fixTo_5 (by decide) ?_
  refine k_imul C (pc := 7) dX0_fixTo_7 ?_
  refine k_iconst C (pc := 8) (v := (3 : Int32)) dX0_fixTo_8 rfl ?_
  refine k_iadd C (pc := 9) dX0_fixTo_9 ?_
  refine k_iload_n C 2 (pc := 10) dX0_fixTo_10 rfl rfl ?_
  refine k_callv C (pc := 11) [1] [0] (wc := [(h_t_rows, .inl (cA 0, 544, .inl rows))]) (wr := [(h_t, .inr (0, [.int width, .int height, .int slack, .int limit, .int paragraphs, u_t_costs, .ref h_t_rows]))]) rfl rfl rfl rfl (by decide) (k_runSN C (As := [.ref h_t_rows, .int ((a1 * (34 : Int32)) + (3 : Int32)), .int a2]) (rest := []) (conX6_put l D cA h_t_rows 544 rows ((a1 * (34 : Int32)) + (3 : Int32)) a2  _ H) ⟨k_cwN C tW_2_53 (k_n13 C) tW_1_1 okX6_put rfl rfl ⟨Nat.le_of_ble_eq_true rfl, Nat.le_of_ble_eq_true rfl⟩, C.w tW_2_52, trivial⟩ rfl rfl (Nat.le_of_ble_eq_true rfl) dX0_fixTo_11 ⟨Nat.le_of_ble_eq_true rfl, Nat.le_of_ble_eq_true rfl⟩) (fun w1_ hw_ => ?_)
  obtain ⟨rows_1, rfl, H⟩ := hw_
  refine k_ws [0, 1] (ws' := [(h_t, .inr (0, [.int width, .int height, .int slack, .int limit, .int paragraphs, u_t_costs, .ref h_t_rows])), (h_t_rows, .inl (cA 0, 544, .inl rows_1))]) rfl rfl ?_
  exact k_vret C (pc := 14) hr dX0_fixTo_14 ⟨_, rfl, H⟩
/-! WidowWatch$Book.takeWordOut(II)V -/
theorem dX0_takeWordOut_0 : decode cX0_takeWordOut 0 = .ok (.aload_n 0, 1) := by decide +kernel
theorem dX0_takeWordOut_1 : decode cX0_takeWordOut 1 = .ok (.iload_n 1, 1) := by decide +kernel
theorem dX0_takeWordOut_2 : decode cX0_takeWordOut 2 = .ok (.invokevirtual 55, 3) := by decide +kernel
theorem dX0_takeWordOut_5 : decode cX0_takeWordOut 5 = .ok (.iconst 1, 1) := by decide +kernel
theorem dX0_takeWordOut_6 : decode cX0_takeWordOut 6 = .ok (.isub, 1) := by decide +kernel
theorem dX0_takeWordOut_7 : decode cX0_takeWordOut 7 = .ok (.istore_n 3, 1) := by decide +kernel
theorem dX0_takeWordOut_8 : decode cX0_takeWordOut 8 = .ok (.iload_n 2, 1) := by decide +kernel
theorem dX0_takeWordOut_9 : decode cX0_takeWordOut 9 = .ok (.istore 4, 2) := by decide +kernel
theorem dX0_takeWordOut_11 : decode cX0_takeWordOut 11 = .ok (.iload 4, 2) := by decide +kernel
theorem dX0_takeWordOut_13 : decode cX0_takeWordOut 13 = .ok (.iload_n 3, 1) := by decide +kernel
theorem dX0_takeWordOut_14 : decode cX0_takeWordOut 14 = .ok (.if_icmp .ge 25, 3) := by decide +kernel
theorem dX0_takeWordOut_17 : decode cX0_takeWordOut 17 = .ok (.aload_n 0, 1) := by decide +kernel
theorem dX0_takeWordOut_18 : decode cX0_takeWordOut 18 = .ok (.iload_n 1, 1) := by decide +kernel
theorem dX0_takeWordOut_19 : decode cX0_takeWordOut 19 = .ok (.iload 4, 2) := by decide +kernel
theorem dX0_takeWordOut_21 : decode cX0_takeWordOut 21 = .ok (.aload_n 0, 1) := by decide +kernel
theorem dX0_takeWordOut_22 : decode cX0_takeWordOut 22 = .ok (.iload_n 1, 1) := by decide +kernel
theorem dX0_takeWordOut_23 : decode cX0_takeWordOut 23 = .ok (.iload 4, 2) := by decide +kernel
theorem dX0_takeWordOut_25 : decode cX0_takeWordOut 25 = .ok (.iconst 1, 1) := by decide +kernel
theorem dX0_takeWordOut_26 : decode cX0_takeWordOut 26 = .ok (.iadd, 1) := by decide +kernel
theorem dX0_takeWordOut_27 : decode cX0_takeWordOut 27 = .ok (.invokevirtual 73, 3) := by decide +kernel
theorem dX0_takeWordOut_30 : decode cX0_takeWordOut 30 = .ok (.invokevirtual 69, 3) := by decide +kernel
theorem dX0_takeWordOut_33 : decode cX0_takeWordOut 33 = .ok (.iinc 4 1, 3) := by decide +kernel
theorem dX0_takeWordOut_36 : decode cX0_takeWordOut 36 = .ok (.goto (-25), 3) := by decide +kernel
theorem dX0_takeWordOut_39 : decode cX0_takeWordOut 39 = .ok (.aload_n 0, 1) := by decide +kernel
theorem dX0_takeWordOut_40 : decode cX0_takeWordOut 40 = .ok (.getfield 15, 3) := by decide +kernel
theorem dX0_takeWordOut_43 : decode cX0_takeWordOut 43 = .ok (.iload_n 1, 1) := by decide +kernel
theorem dX0_takeWordOut_44 : decode cX0_takeWordOut 44 = .ok (.bipush 34, 2) := by decide +kernel
theorem dX0_takeWordOut_46 : decode cX0_takeWordOut 46 = .ok (.imul, 1) := by decide +kernel
theorem dX0_takeWordOut_47 : decode cX0_takeWordOut 47 = .ok (.iconst 0, 1) := by decide +kernel
theorem dX0_takeWordOut_48 : decode cX0_takeWordOut 48 = .ok (.iadd, 1) := by decide +kernel
theorem dX0_takeWordOut_49 : decode cX0_takeWordOut 49 = .ok (.iload_n 3, 1) := by decide +kernel
theorem dX0_takeWordOut_50 : decode cX0_takeWordOut 50 = .ok (.invokestatic 65, 3) := by decide +kernel
theorem dX0_takeWordOut_53 : decode cX0_takeWordOut 53 = .ok (.return_, 1) := by decide +kernel
theorem okX0_takeWordOut : okY yX0_takeWordOut 2 := ⟨by decide +kernel, by decide +kernel, by decide +kernel⟩
def wpX0_takeWordOut_L11 (a1 : Int32) (a2 : Int32) (Post : (Nat → Int32) → Prop)  : Nat → (Nat → Int32) → Int32 → Int32 → Prop
  | 0 => fun _ _ _ => False
  | n11 + 1 => fun rows_v x3 x4 => (x3 ≤ x4 → wpX6_put 544 rows_v ((a1 * (34 : Int32)) + (0 : Int32)) x3 (fun rows_2 => Post rows_2)) ∧ (¬ x3 ≤ x4 → wpX0_wordAt rows_v a1 (x4 + (1 : Int32)) (fun r_3 => wpX0_setWord rows_v a1 x4 r_3 (fun rows_4 => (wpX0_takeWordOut_L11 a1 a2 Post  n11) rows_4 x3 (x4 + (1 : Int32)))))
def wpX0_takeWordOut (rows : Nat → Int32) (a1 : Int32) (a2 : Int32) (Post : (Nat → Int32) → Prop) : Prop := wpX0_wordsOf rows a1 (fun r_1 => ∃ m_, wpX0_takeWordOut_L11 a1 a2 Post  m_ rows (r_1 - (1 : Int32)) a2)
set_option maxHeartbeats 4000000 in
set_option maxRecDepth 100000 in
theorem conX0_takeWordOut (l : Launch) (D : va_G) (cA : Nat → ClassId) (h_t h_t_rows : Nat) (u_t_costs : Value) (width : Int32) (height : Int32) (slack : Int32) (limit : Int32) (paragraphs : Int32) (rows : Nat → Int32) (a1 : Int32) (a2 : Int32) (Post : (Nat → Int32) → Prop) (H : wpX0_takeWordOut rows a1 a2 Post) : Con l D cA yX0_takeWordOut (wm yX0_takeWordOut cX0_takeWordOut 5 none) { frames := 2, cells := 0, slots := 0, locals := 45 } [(h_t, .inr (0, [.int width, .int height, .int slack, .int limit, .int paragraphs, u_t_costs, .ref h_t_rows])), (h_t_rows, .inl (cA 0, 544, .inl rows))] [.ref h_t, .int a1, .int a2] 0 0 (PV (fun w1 => ∃ (rows' : Nat → Int32), w1 = [(h_t, .inr (0, [.int width, .int height, .int slack, .int limit, .int paragraphs, u_t_costs, .ref h_t_rows])), (h_t_rows, .inl (cA 0, 544, .inl (rows')))] ∧ Post rows')) := by
  refine Con.of (by decide) (Nat.le_of_ble_eq_true rfl) ?_
  intro p e s m args below meth c C hr hini
  have B11 : ∀  (n : Nat) (rows_v : Nat → Int32) (x3 : Int32) (x4 : Int32), wpX0_takeWordOut_L11 a1 a2 Post  n rows_v x3 x4 → Kf p l e { frames := 2, cells := 0, slots := 0, locals := 45 } s m args below meth c D (va_A [(h_t, .inr (0, [.int width, .int height, .int slack, .int limit, .int paragraphs, u_t_costs, .ref h_t_rows])), (h_t_rows, .inl (cA 0, 544, .inl rows))] s.heap.size) 5 0 0 (MQ below (QC D [(h_t, .inr (0, [.int width, .int height, .int slack, .int limit, .int paragraphs, u_t_costs, .ref h_t_rows])), (h_t_rows, .inl (cA 0, 544, .inl rows))] s.heap.size (PV (fun w1 => ∃ (rows' : Nat → Int32), w1 = [(h_t, .inr (0, [.int width, .int height, .int slack, .int limit, .int paragraphs, u_t_costs, .ref h_t_rows])), (h_t_rows, .inl (cA 0, 544, .inl (rows')))] ∧ Post rows'))) args s 0 0 (va_A [(h_t, .inr (0, [.int width, .int height, .int slack, .int limit, .int paragraphs, u_t_costs, .ref h_t_rows])), (h_t_rows, .inl (cA 0, 544, .inl rows))] s.heap.size)) [(h_t, .inr (0, [.int width, .int height, .int slack, .int limit, .int paragraphs, u_t_costs, .ref h_t_rows])), (h_t_rows, .inl (cA 0, 544, .inl rows_v))] 11 [(0, .ref h_t), (1, .int a1), (3, .int x3), (4, .int x4)] [] := by
    intro  n
    induction n with
    | zero =>
      intro rows_v x3 x4 H
      exact H.elim
    | succ n11 ih11 =>
      intro rows_v x3 x4 H
      refine k_iload C 3 (pc := 11) dX0_takeWordOut_11 rfl ?_
      refine k_iload_n C 2 (pc := 13) dX0_takeWordOut_13 rfl rfl ?_
      refine k_icmp_ge C (pc := 14) (tgt := 39) dX0_takeWordOut_14 (by decide) (fun c_14 => ?_) (fun c_14 => ?_)
      · have H := H.1 c_14
        refine k_aload_n C 0 (pc := 39) dX0_takeWordOut_39 rfl rfl ?_
        refine k_get C (pc := 40) inW_X0 0 6 rfl rfl (Nat.lt_of_lt_of_le (Nat.lt_succ_self _) (Nat.le_of_ble_eq_true rfl)) (ref := "WidowWatch$Book") tW_1_70 rfl rfl dX0_takeWordOut_40 ?_
        refine k_iload_n C 1 (pc := 43) dX0_takeWordOut_43 rfl rfl ?_
        refine k_bipush C (pc := 44) (v := (34 : Int32)) dX0_takeWordOut_44 (by decide) ?_
        refine k_imul C (pc := 46) dX0_takeWordOut_46 ?_
        refine k_iconst C (pc := 47) (v := (0 : Int32)) dX0_takeWordOut_47 rfl ?_
        refine k_iadd C (pc := 48) dX0_takeWordOut_48 ?_
        refine k_iload_n C 2 (pc := 49) dX0_takeWordOut_49 rfl rfl ?_
        refine k_callv C (pc := 50) [1] [0] (wc := [(h_t_rows, .inl (cA 0, 544, .inl rows_v))]) (wr := [(h_t, .inr (0, [.int width, .int height, .int slack, .int limit, .int paragraphs, u_t_costs, .ref h_t_rows]))]) rfl rfl rfl rfl (by decide) (k_runSN C (As := [.ref h_t_rows, .int ((a1 * (34 : Int32)) + (0 : Int32)), .int x3]) (rest := []) (conX6_put l D cA h_t_rows 544 rows_v ((a1 * (34 : Int32)) + (0 : Int32)) x3  _ H) ⟨k_cwN C tW_2_53 (k_n13 C) tW_1_1 okX6_put rfl rfl ⟨Nat.le_of_ble_eq_true rfl, Nat.le_of_ble_eq_true rfl⟩, C.w tW_2_52, trivial⟩ rfl rfl (Nat.le_of_ble_eq_true rfl) dX0_takeWordOut_50 ⟨Nat.le_of_ble_eq_true rfl, Nat.le_of_ble_eq_true rfl⟩) (fun w1_ hw_ => ?_)
        obtain ⟨rows_2, rfl, H⟩ := hw_
        refine k_ws [0, 1] (ws' := [(h_t, .inr (0, [.int width, .int height, .int slack, .int limit, .int paragraphs, u_t_costs, .ref h_t_rows])), (h_t_rows, .inl (cA 0, 544, .inl rows_2))]) rfl rfl ?_
        exact k_vret C (pc := 53) hr dX0_takeWordOut_53 ⟨_, rfl, H⟩
      · have H := H.2 c_14
        refine k_aload_n C 0 (pc := 17) dX0_takeWordOut_17 rfl rfl ?_
        refine k_iload_n C 1 (pc := 18) dX0_takeWordOut_18 rfl rfl ?_
        refine k_iload C 3 (pc := 19) dX0_takeWordOut_19 rfl ?_
        refine k_aload_n C 0 (pc := 21) dX0_takeWordOut_21 rfl rfl ?_
        refine k_iload_n C 1 (pc := 22) dX0_takeWordOut_22 rfl rfl ?_
        refine k_iload C 3 (pc := 23) dX0_takeWordOut_23 rfl ?_
        refine k_iconst C (pc := 25) (v := (1 : Int32)) dX0_takeWordOut_25 rfl ?_
        refine k_iadd C (pc := 26) dX0_takeWordOut_26 ?_
        refine k_calli C (pc := 27) [0, 1] [] (wc := [(h_t, .inr (0, [.int width, .int height, .int slack, .int limit, .int paragraphs, u_t_costs, .ref h_t_rows])), (h_t_rows, .inl (cA 0, 544, .inl rows_v))]) (wr := []) rfl rfl rfl rfl (by decide) (k_runV C (As := [.int a1, .int (x4 + (1 : Int32))]) (rest := [.int x4, .int a1, .ref h_t]) (ci := 0) (q0 := 0) (conX0_wordAt l D cA h_t h_t_rows u_t_costs width height slack limit paragraphs rows_v a1 (x4 + (1 : Int32))  _ H) ⟨k_cwB C tW_2_50 tW_5_8 tW_1_2 okX0_wordAt rfl rfl ⟨Nat.le_of_ble_eq_true rfl, Nat.le_of_ble_eq_true rfl⟩, C.w tW_2_48, C.w tW_2_49⟩ rfl rfl rfl rfl rfl (Nat.le_of_ble_eq_true rfl) dX0_takeWordOut_27 ⟨Nat.le_of_ble_eq_true rfl, Nat.le_of_ble_eq_true rfl⟩) (fun r_3 w1_ hw_ => ?_)
        obtain ⟨rfl, H⟩ := hw_
        refine k_ws [0, 1] (ws' := [(h_t, .inr (0, [.int width, .int height, .int slack, .int limit, .int paragraphs, u_t_costs, .ref h_t_rows])), (h_t_rows, .inl (cA 0, 544, .inl rows_v))]) rfl rfl ?_
        refine k_callv C (pc := 30) [0, 1] [] (wc := [(h_t, .inr (0, [.int width, .int height, .int slack, .int limit, .int paragraphs, u_t_costs, .ref h_t_rows])), (h_t_rows, .inl (cA 0, 544, .inl rows_v))]) (wr := []) rfl rfl rfl rfl (by decide) (k_runV C (As := [.int a1, .int x4, .int r_3]) (rest := []) (ci := 0) (q0 := 0) (conX0_setWord l D cA h_t h_t_rows u_t_costs width height slack limit paragraphs rows_v a1 x4 r_3  _ H) ⟨k_cwB C tW_3_147 tW_3_144 tW_1_2 okX0_setWord rfl rfl ⟨Nat.le_of_ble_eq_true rfl, Nat.le_of_ble_eq_true rfl⟩, C.w tW_3_145, C.w tW_3_146⟩ rfl rfl rfl rfl rfl (Nat.le_of_ble_eq_true rfl) dX0_takeWordOut_30 ⟨Nat.le_of_ble_eq_true rfl, Nat.le_of_ble_eq_true rfl⟩) (fun w1_ hw_ => ?_)
        obtain ⟨rows_4, rfl, H⟩ := hw_
        refine k_ws [0, 1] (ws' := [(h_t, .inr (0, [.int width, .int height, .int slack, .int limit, .int paragraphs, u_t_costs, .ref h_t_rows])), (h_t_rows, .inl (cA 0, 544, .inl rows_4))]) rfl rfl ?_
        refine k_iinc C (pc := 33) (k := 3) (v := x4 + (1 : Int32)) dX0_takeWordOut_33 rfl rfl (Nat.lt_of_lt_of_le (Nat.lt_succ_self _) (Nat.le_of_ble_eq_true rfl)) (lv' := [(4, .int (x4 + (1 : Int32))), (0, .ref h_t), (1, .int a1), (3, .int x3)]) rfl ?_
        refine k_goto C (pc := 36) (tgt := 11) dX0_takeWordOut_36 (by decide) ?_
        refine k_lv (pc := 11) [1, 2, 3, 0] (lv' := [(0, .ref h_t), (1, .int a1), (3, .int x3), (4, .int (x4 + (1 : Int32)))]) rfl ?_
        exact ih11 rows_4 x3 (x4 + (1 : Int32)) H
  refine k_eq (ws' := [(h_t, .inr (0, [.int width, .int height, .int slack, .int limit, .int paragraphs, u_t_costs, .ref h_t_rows])), (h_t_rows, .inl (cA 0, 544, .inl rows))]) (lv' := [(0, .ref h_t), (1, .int a1), (2, .int a2)]) (st' := []) rfl rfl rfl ?_
  refine k_aload_n C 0 (pc := 0) dX0_takeWordOut_0 rfl rfl ?_
  refine k_iload_n C 1 (pc := 1) dX0_takeWordOut_1 rfl rfl ?_
  refine k_calli C (pc := 2) [0, 1] [] (wc := [(h_t, .inr (0, [.int width, .int height, .int slack, .int limit, .int paragraphs, u_t_costs, .ref h_t_rows])), (h_t_rows, .inl (cA 0, 544, .inl rows))]) (wr := []) rfl rfl rfl rfl (by decide) (k_runV C (As := [.int a1]) (rest := []) (ci := 0) (q0 := 0) (conX0_wordsOf l D cA h_t h_t_rows u_t_costs width height slack limit paragraphs rows a1  _ H) ⟨k_cwB C tW_2_43 tW_3_143 tW_1_2 okX0_wordsOf rfl rfl ⟨Nat.le_of_ble_eq_true rfl, Nat.le_of_ble_eq_true rfl⟩, C.w tW_2_41, C.w tW_2_42⟩ rfl rfl rfl rfl rfl (Nat.le_of_ble_eq_true rfl) dX0_takeWordOut_2 ⟨Nat.le_of_ble_eq_true rfl, Nat.le_of_ble_eq_true rfl⟩) (fun r_1 w1_ hw_ => ?_)
  obtain ⟨rfl, H⟩ := hw_
  refine k_ws [0, 1] (ws' := [(h_t, .inr (0, [.int width, .int height, .int slack, .int limit, .int paragraphs, u_t_costs, .ref h_t_rows])), (h_t_rows, .inl (cA 0, 544, .inl rows))]) rfl rfl ?_
  refine k_iconst C (pc := 5) (v := (1 : Int32)) dX0_takeWordOut_5 rfl ?_
  refine k_isub C (pc := 6) dX0_takeWordOut_6 ?_
  refine k_istore_n C (pc := 7) dX0_takeWordOut_7 rfl (Nat.lt_of_lt_of_le (Nat.lt_succ_self _) (Nat.le_of_ble_eq_true rfl)) (lv' := [(3, .int (r_1 - (1 : Int32))), (0, .ref h_t), (1, .int a1), (2, .int a2)]) rfl ?_
  refine k_iload_n C 3 (pc := 8) dX0_takeWordOut_8 rfl rfl ?_
  refine k_istore C (pc := 9) dX0_takeWordOut_9 (Nat.lt_of_lt_of_le (Nat.lt_succ_self _) (Nat.le_of_ble_eq_true rfl)) (lv' := [(4, .int a2), (3, .int (r_1 - (1 : Int32))), (0, .ref h_t), (1, .int a1), (2, .int a2)]) rfl ?_
  obtain ⟨n_, H⟩ := H
  refine k_lv (pc := 11) [2, 3, 1, 0] (lv' := [(0, .ref h_t), (1, .int a1), (3, .int (r_1 - (1 : Int32))), (4, .int a2)]) rfl ?_
  exact B11  n_ rows (r_1 - (1 : Int32)) a2 H
/-! WidowWatch$Book.openParagraph(IZZ)V -/
theorem dX0_openParagraph_0 : decode cX0_openParagraph 0 = .ok (.aload_n 0, 1) := by decide +kernel
theorem dX0_openParagraph_1 : decode cX0_openParagraph 1 = .ok (.getfield 34, 3) := by decide +kernel
theorem dX0_openParagraph_4 : decode cX0_openParagraph 4 = .ok (.bipush 34, 2) := by decide +kernel
theorem dX0_openParagraph_6 : decode cX0_openParagraph 6 = .ok (.imul, 1) := by decide +kernel
theorem dX0_openParagraph_7 : decode cX0_openParagraph 7 = .ok (.iconst 1, 1) := by decide +kernel
theorem dX0_openParagraph_8 : decode cX0_openParagraph 8 = .ok (.isub, 1) := by decide +kernel
theorem dX0_openParagraph_9 : decode cX0_openParagraph 9 = .ok (.istore 4, 2) := by decide +kernel
theorem dX0_openParagraph_11 : decode cX0_openParagraph 11 = .ok (.iload 4, 2) := by decide +kernel
theorem dX0_openParagraph_13 : decode cX0_openParagraph 13 = .ok (.iload_n 1, 1) := by decide +kernel
theorem dX0_openParagraph_14 : decode cX0_openParagraph 14 = .ok (.bipush 34, 2) := by decide +kernel
theorem dX0_openParagraph_16 : decode cX0_openParagraph 16 = .ok (.imul, 1) := by decide +kernel
theorem dX0_openParagraph_17 : decode cX0_openParagraph 17 = .ok (.if_icmp .lt 30, 3) := by decide +kernel
theorem dX0_openParagraph_20 : decode cX0_openParagraph 20 = .ok (.aload_n 0, 1) := by decide +kernel
theorem dX0_openParagraph_21 : decode cX0_openParagraph 21 = .ok (.getfield 15, 3) := by decide +kernel
theorem dX0_openParagraph_24 : decode cX0_openParagraph 24 = .ok (.iload 4, 2) := by decide +kernel
theorem dX0_openParagraph_26 : decode cX0_openParagraph 26 = .ok (.bipush 34, 2) := by decide +kernel
theorem dX0_openParagraph_28 : decode cX0_openParagraph 28 = .ok (.iadd, 1) := by decide +kernel
theorem dX0_openParagraph_29 : decode cX0_openParagraph 29 = .ok (.aload_n 0, 1) := by decide +kernel
theorem dX0_openParagraph_30 : decode cX0_openParagraph 30 = .ok (.getfield 15, 3) := by decide +kernel
theorem dX0_openParagraph_33 : decode cX0_openParagraph 33 = .ok (.iload 4, 2) := by decide +kernel
theorem dX0_openParagraph_35 : decode cX0_openParagraph 35 = .ok (.invokestatic 61, 3) := by decide +kernel
theorem dX0_openParagraph_38 : decode cX0_openParagraph 38 = .ok (.invokestatic 65, 3) := by decide +kernel
theorem dX0_openParagraph_41 : decode cX0_openParagraph 41 = .ok (.iinc 4 (-1), 3) := by decide +kernel
theorem dX0_openParagraph_44 : decode cX0_openParagraph 44 = .ok (.goto (-33), 3) := by decide +kernel
theorem dX0_openParagraph_47 : decode cX0_openParagraph 47 = .ok (.aload_n 0, 1) := by decide +kernel
theorem dX0_openParagraph_48 : decode cX0_openParagraph 48 = .ok (.dup, 1) := by decide +kernel
theorem dX0_openParagraph_49 : decode cX0_openParagraph 49 = .ok (.getfield 34, 3) := by decide +kernel
theorem dX0_openParagraph_52 : decode cX0_openParagraph 52 = .ok (.iconst 1, 1) := by decide +kernel
theorem dX0_openParagraph_53 : decode cX0_openParagraph 53 = .ok (.iadd, 1) := by decide +kernel
theorem dX0_openParagraph_54 : decode cX0_openParagraph 54 = .ok (.putfield 34, 3) := by decide +kernel
theorem dX0_openParagraph_57 : decode cX0_openParagraph 57 = .ok (.aload_n 0, 1) := by decide +kernel
theorem dX0_openParagraph_58 : decode cX0_openParagraph 58 = .ok (.getfield 15, 3) := by decide +kernel
theorem dX0_openParagraph_61 : decode cX0_openParagraph 61 = .ok (.iload_n 1, 1) := by decide +kernel
theorem dX0_openParagraph_62 : decode cX0_openParagraph 62 = .ok (.bipush 34, 2) := by decide +kernel
theorem dX0_openParagraph_64 : decode cX0_openParagraph 64 = .ok (.imul, 1) := by decide +kernel
theorem dX0_openParagraph_65 : decode cX0_openParagraph 65 = .ok (.iconst 0, 1) := by decide +kernel
theorem dX0_openParagraph_66 : decode cX0_openParagraph 66 = .ok (.iadd, 1) := by decide +kernel
theorem dX0_openParagraph_67 : decode cX0_openParagraph 67 = .ok (.iconst 0, 1) := by decide +kernel
theorem dX0_openParagraph_68 : decode cX0_openParagraph 68 = .ok (.invokestatic 65, 3) := by decide +kernel
theorem dX0_openParagraph_71 : decode cX0_openParagraph 71 = .ok (.aload_n 0, 1) := by decide +kernel
theorem dX0_openParagraph_72 : decode cX0_openParagraph 72 = .ok (.getfield 15, 3) := by decide +kernel
theorem dX0_openParagraph_75 : decode cX0_openParagraph 75 = .ok (.iload_n 1, 1) := by decide +kernel
theorem dX0_openParagraph_76 : decode cX0_openParagraph 76 = .ok (.bipush 34, 2) := by decide +kernel
theorem dX0_openParagraph_78 : decode cX0_openParagraph 78 = .ok (.imul, 1) := by decide +kernel
theorem dX0_openParagraph_79 : decode cX0_openParagraph 79 = .ok (.iconst 1, 1) := by decide +kernel
theorem dX0_openParagraph_80 : decode cX0_openParagraph 80 = .ok (.iadd, 1) := by decide +kernel
theorem dX0_openParagraph_81 : decode cX0_openParagraph 81 = .ok (.iload_n 2, 1) := by decide +kernel
theorem dX0_openParagraph_82 : decode cX0_openParagraph 82 = .ok (.ifCond .eq 7, 3) := by decide +kernel
theorem dX0_openParagraph_85 : decode cX0_openParagraph 85 = .ok (.iconst 1, 1) := by decide +kernel
theorem dX0_openParagraph_86 : decode cX0_openParagraph 86 = .ok (.goto 4, 3) := by decide +kernel
theorem dX0_openParagraph_89 : decode cX0_openParagraph 89 = .ok (.iconst 0, 1) := by decide +kernel
theorem dX0_openParagraph_90 : decode cX0_openParagraph 90 = .ok (.invokestatic 65, 3) := by decide +kernel
theorem dX0_openParagraph_93 : decode cX0_openParagraph 93 = .ok (.aload_n 0, 1) := by decide +kernel
theorem dX0_openParagraph_94 : decode cX0_openParagraph 94 = .ok (.iload_n 1, 1) := by decide +kernel
theorem dX0_openParagraph_95 : decode cX0_openParagraph 95 = .ok (.iload_n 3, 1) := by decide +kernel
theorem dX0_openParagraph_96 : decode cX0_openParagraph 96 = .ok (.invokevirtual 77, 3) := by decide +kernel
theorem dX0_openParagraph_99 : decode cX0_openParagraph 99 = .ok (.aload_n 0, 1) := by decide +kernel
theorem dX0_openParagraph_100 : decode cX0_openParagraph 100 = .ok (.iload_n 1, 1) := by decide +kernel
theorem dX0_openParagraph_101 : decode cX0_openParagraph 101 = .ok (.iconst (-1), 1) := by decide +kernel
theorem dX0_openParagraph_102 : decode cX0_openParagraph 102 = .ok (.invokevirtual 81, 3) := by decide +kernel
theorem dX0_openParagraph_105 : decode cX0_openParagraph 105 = .ok (.return_, 1) := by decide +kernel
theorem okX0_openParagraph : okY yX0_openParagraph 3 := ⟨by decide +kernel, by decide +kernel, by decide +kernel⟩
def wpX0_openParagraph_b90 (a1 : Int32) (a2 : Int32) (a3 : Int32) (Post : Int32 → (Nat → Int32) → Prop)  (paragraphs_v : Int32) (rows_v : Nat → Int32) (s1 : Int32) (s2 : Int32) : Prop := wpX6_put 544 rows_v s1 s2 (fun rows_2 => wpX0_setBeginsPage rows_2 a1 a3 (fun rows_3 => wpX0_fixTo rows_3 a1 (-1 : Int32) (fun rows_4 => Post paragraphs_v rows_4)))
def wpX0_openParagraph_L11 (a1 : Int32) (a2 : Int32) (a3 : Int32) (Post : Int32 → (Nat → Int32) → Prop)  : Nat → Int32 → (Nat → Int32) → Int32 → Prop
  | 0 => fun _ _ _ => False
  | n11 + 1 => fun paragraphs_v rows_v x4 => (x4 < (a1 * (34 : Int32)) → wpX6_put 544 rows_v ((a1 * (34 : Int32)) + (0 : Int32)) (0 : Int32) (fun rows_1 => (a2 = 0 → wpX0_openParagraph_b90 a1 a2 a3 Post  (paragraphs_v + (1 : Int32)) rows_1 ((a1 * (34 : Int32)) + (1 : Int32)) (0 : Int32)) ∧ (¬ a2 = 0 → wpX0_openParagraph_b90 a1 a2 a3 Post  (paragraphs_v + (1 : Int32)) rows_1 ((a1 * (34 : Int32)) + (1 : Int32)) (1 : Int32)))) ∧ (¬ x4 < (a1 * (34 : Int32)) → wpX6_get 544 rows_v x4 (fun r_5 => wpX6_put 544 rows_v (x4 + (34 : Int32)) r_5 (fun rows_6 => (wpX0_openParagraph_L11 a1 a2 a3 Post  n11) paragraphs_v rows_6 (x4 + (-1 : Int32)))))
def wpX0_openParagraph (paragraphs : Int32) (rows : Nat → Int32) (a1 : Int32) (a2 : Int32) (a3 : Int32) (Post : Int32 → (Nat → Int32) → Prop) : Prop := ∃ m_, wpX0_openParagraph_L11 a1 a2 a3 Post  m_ paragraphs rows ((paragraphs * (34 : Int32)) - (1 : Int32))
set_option maxHeartbeats 4000000 in
set_option maxRecDepth 100000 in
theorem conX0_openParagraph (l : Launch) (D : va_G) (cA : Nat → ClassId) (h_t h_t_rows : Nat) (u_t_costs : Value) (width : Int32) (height : Int32) (slack : Int32) (limit : Int32) (paragraphs : Int32) (rows : Nat → Int32) (a1 : Int32) (a2 : Int32) (a3 : Int32) (Post : Int32 → (Nat → Int32) → Prop) (H : wpX0_openParagraph paragraphs rows a1 a2 a3 Post) : Con l D cA yX0_openParagraph (wm yX0_openParagraph cX0_openParagraph 5 none) { frames := 2, cells := 0, slots := 0, locals := 44 } [(h_t, .inr (0, [.int width, .int height, .int slack, .int limit, .int paragraphs, u_t_costs, .ref h_t_rows])), (h_t_rows, .inl (cA 0, 544, .inl rows))] [.ref h_t, .int a1, .int a2, .int a3] 0 0 (PV (fun w1 => ∃ (paragraphs' : Int32) (rows' : Nat → Int32), w1 = [(h_t, .inr (0, [.int width, .int height, .int slack, .int limit, .int (paragraphs'), u_t_costs, .ref h_t_rows])), (h_t_rows, .inl (cA 0, 544, .inl (rows')))] ∧ Post paragraphs' rows')) := by
  refine Con.of (by decide) (Nat.le_of_ble_eq_true rfl) ?_
  intro p e s m args below meth c C hr hini
  have B90 : ∀  (paragraphs_v : Int32) (rows_v : Nat → Int32) (s1 : Int32) (s2 : Int32), wpX0_openParagraph_b90 a1 a2 a3 Post  paragraphs_v rows_v s1 s2 → Kf p l e { frames := 2, cells := 0, slots := 0, locals := 44 } s m args below meth c D (va_A [(h_t, .inr (0, [.int width, .int height, .int slack, .int limit, .int paragraphs, u_t_costs, .ref h_t_rows])), (h_t_rows, .inl (cA 0, 544, .inl rows))] s.heap.size) 5 0 0 (MQ below (QC D [(h_t, .inr (0, [.int width, .int height, .int slack, .int limit, .int paragraphs, u_t_costs, .ref h_t_rows])), (h_t_rows, .inl (cA 0, 544, .inl rows))] s.heap.size (PV (fun w1 => ∃ (paragraphs' : Int32) (rows' : Nat → Int32), w1 = [(h_t, .inr (0, [.int width, .int height, .int slack, .int limit, .int (paragraphs'), u_t_costs, .ref h_t_rows])), (h_t_rows, .inl (cA 0, 544, .inl (rows')))] ∧ Post paragraphs' rows'))) args s 0 0 (va_A [(h_t, .inr (0, [.int width, .int height, .int slack, .int limit, .int paragraphs, u_t_costs, .ref h_t_rows])), (h_t_rows, .inl (cA 0, 544, .inl rows))] s.heap.size)) [(h_t, .inr (0, [.int width, .int height, .int slack, .int limit, .int paragraphs_v, u_t_costs, .ref h_t_rows])), (h_t_rows, .inl (cA 0, 544, .inl rows_v))] 90 [(0, .ref h_t), (1, .int a1), (3, .int a3)] [.int s2, .int s1, .ref h_t_rows] := by
    intro  paragraphs_v rows_v s1 s2 H
    refine k_callv C (pc := 90) [1] [0] (wc := [(h_t_rows, .inl (cA 0, 544, .inl rows_v))]) (wr := [(h_t, .inr (0, [.int width, .int height, .int slack, .int limit, .int paragraphs_v, u_t_costs, .ref h_t_rows]))]) rfl rfl rfl rfl (by decide) (k_runSN C (As := [.ref h_t_rows, .int s1, .int s2]) (rest := []) (conX6_put l D cA h_t_rows 544 rows_v s1 s2  _ H) ⟨k_cwN C tW_2_53 (k_n13 C) tW_1_1 okX6_put rfl rfl ⟨Nat.le_of_ble_eq_true rfl, Nat.le_of_ble_eq_true rfl⟩, C.w tW_2_52, trivial⟩ rfl rfl (Nat.le_of_ble_eq_true rfl) dX0_openParagraph_90 ⟨Nat.le_of_ble_eq_true rfl, Nat.le_of_ble_eq_true rfl⟩) (fun w1_ hw_ => ?_)
    obtain ⟨rows_2, rfl, H⟩ := hw_
    refine k_ws [0, 1] (ws' := [(h_t, .inr (0, [.int width, .int height, .int slack, .int limit, .int paragraphs_v, u_t_costs, .ref h_t_rows])), (h_t_rows, .inl (cA 0, 544, .inl rows_2))]) rfl rfl ?_
    refine k_aload_n C 0 (pc := 93) dX0_openParagraph_93 rfl rfl ?_
    refine k_iload_n C 1 (pc := 94) dX0_openParagraph_94 rfl rfl ?_
    refine k_iload_n C 2 (pc := 95) dX0_openParagraph_95 rfl rfl ?_
    refine k_callv C (pc := 96) [0, 1] [] (wc := [(h_t, .inr (0, [.int width, .int height, .int slack, .int limit, .int paragraphs_v, u_t_costs, .ref h_t_rows])), (h_t_rows, .inl (cA 0, 544, .inl rows_2))]) (wr := []) rfl rfl rfl rfl (by decide) (k_runV C (As := [.int a1, .int a3]) (rest := []) (ci := 0) (q0 := 0) (conX0_setBeginsPage l D cA h_t h_t_rows u_t_costs width height slack limit paragraphs_v rows_2 a1 a3  _ H) ⟨k_cwB C tW_3_130 tW_3_127 tW_1_2 okX0_setBeginsPage rfl rfl ⟨Nat.le_of_ble_eq_true rfl, Nat.le_of_ble_eq_true rfl⟩, C.w tW_3_128, C.w tW_3_129⟩ rfl rfl rfl rfl rfl (Nat.le_of_ble_eq_true rfl) dX0_openParagraph_96 ⟨Nat.le_of_ble_eq_true rfl, Nat.le_of_ble_eq_true rfl⟩) (fun w1_ hw_ => ?_)
    obtain ⟨rows_3, rfl, H⟩ := hw_
    refine k_ws [0, 1] (ws' := [(h_t, .inr (0, [.int width, .int height, .int slack, .int limit, .int paragraphs_v, u_t_costs, .ref h_t_rows])), (h_t_rows, .inl (cA 0, 544, .inl rows_3))]) rfl rfl ?_
    refine k_aload_n C 0 (pc := 99) dX0_openParagraph_99 rfl rfl ?_
    refine k_iload_n C 1 (pc := 100) dX0_openParagraph_100 rfl rfl ?_
    refine k_iconst C (pc := 101) (v := (-1 : Int32)) dX0_openParagraph_101 rfl ?_
    refine k_callv C (pc := 102) [0, 1] [] (wc := [(h_t, .inr (0, [.int width, .int height, .int slack, .int limit, .int paragraphs_v, u_t_costs, .ref h_t_rows])), (h_t_rows, .inl (cA 0, 544, .inl rows_3))]) (wr := []) rfl rfl rfl rfl (by decide) (k_runV C (As := [.int a1, .int (-1 : Int32)]) (rest := []) (ci := 0) (q0 := 0) (conX0_fixTo l D cA h_t h_t_rows u_t_costs width height slack limit paragraphs_v rows_3 a1 (-1 : Int32)  _ H) ⟨k_cwB C tW_3_134 tW_3_131 tW_1_2 okX0_fixTo rfl rfl ⟨Nat.le_of_ble_eq_true rfl, Nat.le_of_ble_eq_true rfl⟩, C.w tW_3_132, C.w tW_3_133⟩ rfl rfl rfl rfl rfl (Nat.le_of_ble_eq_true rfl) dX0_openParagraph_102 ⟨Nat.le_of_ble_eq_true rfl, Nat.le_of_ble_eq_true rfl⟩) (fun w1_ hw_ => ?_)
    obtain ⟨rows_4, rfl, H⟩ := hw_
    refine k_ws [0, 1] (ws' := [(h_t, .inr (0, [.int width, .int height, .int slack, .int limit, .int paragraphs_v, u_t_costs, .ref h_t_rows])), (h_t_rows, .inl (cA 0, 544, .inl rows_4))]) rfl rfl ?_
    exact k_vret C (pc := 105) hr dX0_openParagraph_105 ⟨_, _, rfl, H⟩
  have B11 : ∀  (n : Nat) (paragraphs_v : Int32) (rows_v : Nat → Int32) (x4 : Int32), wpX0_openParagraph_L11 a1 a2 a3 Post  n paragraphs_v rows_v x4 → Kf p l e { frames := 2, cells := 0, slots := 0, locals := 44 } s m args below meth c D (va_A [(h_t, .inr (0, [.int width, .int height, .int slack, .int limit, .int paragraphs, u_t_costs, .ref h_t_rows])), (h_t_rows, .inl (cA 0, 544, .inl rows))] s.heap.size) 5 0 0 (MQ below (QC D [(h_t, .inr (0, [.int width, .int height, .int slack, .int limit, .int paragraphs, u_t_costs, .ref h_t_rows])), (h_t_rows, .inl (cA 0, 544, .inl rows))] s.heap.size (PV (fun w1 => ∃ (paragraphs' : Int32) (rows' : Nat → Int32), w1 = [(h_t, .inr (0, [.int width, .int height, .int slack, .int limit, .int (paragraphs'), u_t_costs, .ref h_t_rows])), (h_t_rows, .inl (cA 0, 544, .inl (rows')))] ∧ Post paragraphs' rows'))) args s 0 0 (va_A [(h_t, .inr (0, [.int width, .int height, .int slack, .int limit, .int paragraphs, u_t_costs, .ref h_t_rows])), (h_t_rows, .inl (cA 0, 544, .inl rows))] s.heap.size)) [(h_t, .inr (0, [.int width, .int height, .int slack, .int limit, .int paragraphs_v, u_t_costs, .ref h_t_rows])), (h_t_rows, .inl (cA 0, 544, .inl rows_v))] 11 [(0, .ref h_t), (1, .int a1), (2, .int a2), (3, .int a3), (4, .int x4)] [] := by
    intro  n
    induction n with
    | zero =>
      intro paragraphs_v rows_v x4 H
      exact H.elim
    | succ n11 ih11 =>
      intro paragraphs_v rows_v x4 H
      refine k_iload C 4 (pc := 11) dX0_openParagraph_11 rfl ?_
      refine k_iload_n C 1 (pc := 13) dX0_openParagraph_13 rfl rfl ?_
      refine k_bipush C (pc := 14) (v := (34 : Int32)) dX0_openParagraph_14 (by decide) ?_
      refine k_imul C (pc := 16) dX0_openParagraph_16 ?_
      refine k_icmp_lt C (pc := 17) (tgt := 47) dX0_openParagraph_17 (by decide) (fun c_17 => ?_) (fun c_17 => ?_)
      · have H := H.1 c_17
        refine k_aload_n C 0 (pc := 47) dX0_openParagraph_47 rfl rfl ?_
        refine k_dup C (pc := 48) dX0_openParagraph_48 rfl ?_
        refine k_get C (pc := 49) inW_X0 0 4 rfl rfl (Nat.lt_of_lt_of_le (Nat.lt_succ_self _) (Nat.le_of_ble_eq_true rfl)) (ref := "WidowWatch$Book") tW_1_65 rfl rfl dX0_openParagraph_49 ?_
        refine k_iconst C (pc := 52) (v := (1 : Int32)) dX0_openParagraph_52 rfl ?_
        refine k_iadd C (pc := 53) dX0_openParagraph_53 ?_
        refine k_put C (pc := 54) inW_X0 tyX0 tyX0_ok nmX0 0 4 rfl rfl (Nat.lt_of_lt_of_le (Nat.lt_succ_self _) (Nat.le_of_ble_eq_true rfl)) (ref := "WidowWatch$Book") tW_1_65 rfl rfl rfl (ty := .int) rfl rfl (Nat.lt_of_lt_of_le (Nat.lt_succ_self _) (Nat.le_of_ble_eq_true rfl)) (fs' := [.int width, .int height, .int slack, .int limit, .int (paragraphs_v + (1 : Int32)), u_t_costs, .ref h_t_rows]) rfl (ws' := [(h_t, .inr (0, [.int width, .int height, .int slack, .int limit, .int (paragraphs_v + (1 : Int32)), u_t_costs, .ref h_t_rows])), (h_t_rows, .inl (cA 0, 544, .inl rows_v))]) rfl dX0_openParagraph_54 ?_
        refine k_aload_n C 0 (pc := 57) dX0_openParagraph_57 rfl rfl ?_
        refine k_get C (pc := 58) inW_X0 0 6 rfl rfl (Nat.lt_of_lt_of_le (Nat.lt_succ_self _) (Nat.le_of_ble_eq_true rfl)) (ref := "WidowWatch$Book") tW_1_70 rfl rfl dX0_openParagraph_58 ?_
        refine k_iload_n C 1 (pc := 61) dX0_openParagraph_61 rfl rfl ?_
        refine k_bipush C (pc := 62) (v := (34 : Int32)) dX0_openParagraph_62 (by decide) ?_
        refine k_imul C (pc := 64) dX0_openParagraph_64 ?_
        refine k_iconst C (pc := 65) (v := (0 : Int32)) dX0_openParagraph_65 rfl ?_
        refine k_iadd C (pc := 66) dX0_openParagraph_66 ?_
        refine k_iconst C (pc := 67) (v := (0 : Int32)) dX0_openParagraph_67 rfl ?_
        refine k_callv C (pc := 68) [1] [0] (wc := [(h_t_rows, .inl (cA 0, 544, .inl rows_v))]) (wr := [(h_t, .inr (0, [.int width, .int height, .int slack, .int limit, .int (paragraphs_v + (1 : Int32)), u_t_costs, .ref h_t_rows]))]) rfl rfl rfl rfl (by decide) (k_runSN C (As := [.ref h_t_rows, .int ((a1 * (34 : Int32)) + (0 : Int32)), .int (0 : Int32)]) (rest := []) (conX6_put l D cA h_t_rows 544 rows_v ((a1 * (34 : Int32)) + (0 : Int32)) (0 : Int32)  _ H) ⟨k_cwN C tW_2_53 (k_n13 C) tW_1_1 okX6_put rfl rfl ⟨Nat.le_of_ble_eq_true rfl, Nat.le_of_ble_eq_true rfl⟩, C.w tW_2_52, trivial⟩ rfl rfl (Nat.le_of_ble_eq_true rfl) dX0_openParagraph_68 ⟨Nat.le_of_ble_eq_true rfl, Nat.le_of_ble_eq_true rfl⟩) (fun w1_ hw_ => ?_)
        obtain ⟨rows_1, rfl, H⟩ := hw_
        refine k_ws [0, 1] (ws' := [(h_t, .inr (0, [.int width, .int height, .int slack, .int limit, .int (paragraphs_v + (1 : Int32)), u_t_costs, .ref h_t_rows])), (h_t_rows, .inl (cA 0, 544, .inl rows_1))]) rfl rfl ?_
        refine k_aload_n C 0 (pc := 71) dX0_openParagraph_71 rfl rfl ?_
        refine k_get C (pc := 72) inW_X0 0 6 rfl rfl (Nat.lt_of_lt_of_le (Nat.lt_succ_self _) (Nat.le_of_ble_eq_true rfl)) (ref := "WidowWatch$Book") tW_1_70 rfl rfl dX0_openParagraph_72 ?_
        refine k_iload_n C 1 (pc := 75) dX0_openParagraph_75 rfl rfl ?_
        refine k_bipush C (pc := 76) (v := (34 : Int32)) dX0_openParagraph_76 (by decide) ?_
        refine k_imul C (pc := 78) dX0_openParagraph_78 ?_
        refine k_iconst C (pc := 79) (v := (1 : Int32)) dX0_openParagraph_79 rfl ?_
        refine k_iadd C (pc := 80) dX0_openParagraph_80 ?_
        refine k_iload_n C 2 (pc := 81) dX0_openParagraph_81 rfl rfl ?_
        refine k_if_eq C (pc := 82) (tgt := 89) dX0_openParagraph_82 (by decide) (fun c_82 => ?_) (fun c_82 => ?_)
        · have H := H.1 c_82
          refine k_iconst C (pc := 89) (v := (0 : Int32)) dX0_openParagraph_89 rfl ?_
          refine k_lv (pc := 90) [0, 1, 3] (lv' := [(0, .ref h_t), (1, .int a1), (3, .int a3)]) rfl ?_
          exact B90  (paragraphs_v + (1 : Int32)) rows_1 ((a1 * (34 : Int32)) + (1 : Int32)) (0 : Int32) H
        · have H := H.2 c_82
          refine k_iconst C (pc := 85) (v := (1 : Int32)) dX0_openParagraph_85 rfl ?_
          refine k_goto C (pc := 86) (tgt := 90) dX0_openParagraph_86 (by decide) ?_
          refine k_lv (pc := 90) [0, 1, 3] (lv' := [(0, .ref h_t), (1, .int a1), (3, .int a3)]) rfl ?_
          exact B90  (paragraphs_v + (1 : Int32)) rows_1 ((a1 * (34 : Int32)) + (1 : Int32)) (1 : Int32) H
      · have H := H.2 c_17
        refine k_aload_n C 0 (pc := 20) dX0_openParagraph_20 rfl rfl ?_
        refine k_get C (pc := 21) inW_X0 0 6 rfl rfl (Nat.lt_of_lt_of_le (Nat.lt_succ_self _) (Nat.le_of_ble_eq_true rfl)) (ref := "WidowWatch$Book") tW_1_70 rfl rfl dX0_openParagraph_21 ?_
        refine k_iload C 4 (pc := 24) dX0_openParagraph_24 rfl ?_
        refine k_bipush C (pc := 26) (v := (34 : Int32)) dX0_openParagraph_26 (by decide) ?_
        refine k_iadd C (pc := 28) dX0_openParagraph_28 ?_
        refine k_aload_n C 0 (pc := 29) dX0_openParagraph_29 rfl rfl ?_
        refine k_get C (pc := 30) inW_X0 0 6 rfl rfl (Nat.lt_of_lt_of_le (Nat.lt_succ_self _) (Nat.le_of_ble_eq_true rfl)) (ref := "WidowWatch$Book") tW_1_70 rfl rfl dX0_openParagraph_30 ?_
        refine k_iload C 4 (pc := 33) dX0_openParagraph_33 rfl ?_
        refine k_calli C (pc := 35) [1] [0] (wc := [(h_t_rows, .inl (cA 0, 544, .inl rows_v))]) (wr := [(h_t, .inr (0, [.int width, .int height, .int slack, .int limit, .int paragraphs_v, u_t_costs, .ref h_t_rows]))]) rfl rfl rfl rfl (by decide) (k_runSN C (As := [.ref h_t_rows, .int x4]) (rest := [.int (x4 + (34 : Int32)), .ref h_t_rows]) (conX6_get l D cA h_t_rows 544 rows_v x4  _ H) ⟨k_cwN C tW_2_46 (k_n6 C) tW_1_1 okX6_get rfl rfl ⟨Nat.le_of_ble_eq_true rfl, Nat.le_of_ble_eq_true rfl⟩, C.w tW_2_45, trivial⟩ rfl rfl (Nat.le_of_ble_eq_true rfl) dX0_openParagraph_35 ⟨Nat.le_of_ble_eq_true rfl, Nat.le_of_ble_eq_true rfl⟩) (fun r_5 w1_ hw_ => ?_)
        obtain ⟨rfl, H⟩ := hw_
        refine k_ws [0, 1] (ws' := [(h_t, .inr (0, [.int width, .int height, .int slack, .int limit, .int paragraphs_v, u_t_costs, .ref h_t_rows])), (h_t_rows, .inl (cA 0, 544, .inl rows_v))]) rfl rfl ?_
        refine k_callv C (pc := 38) [1] [0] (wc := [(h_t_rows, .inl (cA 0, 544, .inl rows_v))]) (wr := [(h_t, .inr (0, [.int width, .int height, .int slack, .int limit, .int paragraphs_v, u_t_costs, .ref h_t_rows]))]) rfl rfl rfl rfl (by decide) (k_runSN C (As := [.ref h_t_rows, .int (x4 + (34 : Int32)), .int r_5]) (rest := []) (conX6_put l D cA h_t_rows 544 rows_v (x4 + (34 : Int32)) r_5  _ H) ⟨k_cwN C tW_2_53 (k_n13 C) tW_1_1 okX6_put rfl rfl ⟨Nat.le_of_ble_eq_true rfl, Nat.le_of_ble_eq_true rfl⟩, C.w tW_2_52, trivial⟩ rfl rfl (Nat.le_of_ble_eq_true rfl) dX0_openParagraph_38 ⟨Nat.le_of_ble_eq_true rfl, Nat.le_of_ble_eq_true rfl⟩) (fun w1_ hw_ => ?_)
        obtain ⟨rows_6, rfl, H⟩ := hw_
        refine k_ws [0, 1] (ws' := [(h_t, .inr (0, [.int width, .int height, .int slack, .int limit, .int paragraphs_v, u_t_costs, .ref h_t_rows])), (h_t_rows, .inl (cA 0, 544, .inl rows_6))]) rfl rfl ?_
        refine k_iinc C (pc := 41) (k := 4) (v := x4 + (-1 : Int32)) dX0_openParagraph_41 rfl rfl (Nat.lt_of_lt_of_le (Nat.lt_succ_self _) (Nat.le_of_ble_eq_true rfl)) (lv' := [(4, .int (x4 + (-1 : Int32))), (0, .ref h_t), (1, .int a1), (2, .int a2), (3, .int a3)]) rfl ?_
        refine k_goto C (pc := 44) (tgt := 11) dX0_openParagraph_44 (by decide) ?_
        refine k_lv (pc := 11) [1, 2, 3, 4, 0] (lv' := [(0, .ref h_t), (1, .int a1), (2, .int a2), (3, .int a3), (4, .int (x4 + (-1 : Int32)))]) rfl ?_
        exact ih11 paragraphs_v rows_6 (x4 + (-1 : Int32)) H
  refine k_eq (ws' := [(h_t, .inr (0, [.int width, .int height, .int slack, .int limit, .int paragraphs, u_t_costs, .ref h_t_rows])), (h_t_rows, .inl (cA 0, 544, .inl rows))]) (lv' := [(0, .ref h_t), (1, .int a1), (2, .int a2), (3, .int a3)]) (st' := []) rfl rfl rfl ?_
  refine k_aload_n C 0 (pc := 0) dX0_openParagraph_0 rfl rfl ?_
  refine k_get C (pc := 1) inW_X0 0 4 rfl rfl (Nat.lt_of_lt_of_le (Nat.lt_succ_self _) (Nat.le_of_ble_eq_true rfl)) (ref := "WidowWatch$Book") tW_1_65 rfl rfl dX0_openParagraph_1 ?_
  refine k_bipush C (pc := 4) (v := (34 : Int32)) dX0_openParagraph_4 (by decide) ?_
  refine k_imul C (pc := 6) dX0_openParagraph_6 ?_
  refine k_iconst C (pc := 7) (v := (1 : Int32)) dX0_openParagraph_7 rfl ?_
  refine k_isub C (pc := 8) dX0_openParagraph_8 ?_
  refine k_istore C (pc := 9) dX0_openParagraph_9 (Nat.lt_of_lt_of_le (Nat.lt_succ_self _) (Nat.le_of_ble_eq_true rfl)) (lv' := [(4, .int ((paragraphs * (34 : Int32)) - (1 : Int32))), (0, .ref h_t), (1, .int a1), (2, .int a2), (3, .int a3)]) rfl ?_
  obtain ⟨n_, H⟩ := H
  refine k_lv (pc := 11) [1, 2, 3, 4, 0] (lv' := [(0, .ref h_t), (1, .int a1), (2, .int a2), (3, .int a3), (4, .int ((paragraphs * (34 : Int32)) - (1 : Int32)))]) rfl ?_
  exact B11  n_ paragraphs rows ((paragraphs * (34 : Int32)) - (1 : Int32)) H
/-! WidowWatch$Book.closeParagraph(I)V -/
theorem dX0_closeParagraph_0 : decode cX0_closeParagraph 0 = .ok (.aload_n 0, 1) := by decide +kernel
theorem dX0_closeParagraph_1 : decode cX0_closeParagraph 1 = .ok (.dup, 1) := by decide +kernel
theorem dX0_closeParagraph_2 : decode cX0_closeParagraph 2 = .ok (.getfield 34, 3) := by decide +kernel
theorem dX0_closeParagraph_5 : decode cX0_closeParagraph 5 = .ok (.iconst 1, 1) := by decide +kernel
theorem dX0_closeParagraph_6 : decode cX0_closeParagraph 6 = .ok (.isub, 1) := by decide +kernel
theorem dX0_closeParagraph_7 : decode cX0_closeParagraph 7 = .ok (.putfield 34, 3) := by decide +kernel
theorem dX0_closeParagraph_10 : decode cX0_closeParagraph 10 = .ok (.iload_n 1, 1) := by decide +kernel
theorem dX0_closeParagraph_11 : decode cX0_closeParagraph 11 = .ok (.bipush 34, 2) := by decide +kernel
theorem dX0_closeParagraph_13 : decode cX0_closeParagraph 13 = .ok (.imul, 1) := by decide +kernel
theorem dX0_closeParagraph_14 : decode cX0_closeParagraph 14 = .ok (.istore_n 2, 1) := by decide +kernel
theorem dX0_closeParagraph_15 : decode cX0_closeParagraph 15 = .ok (.iload_n 2, 1) := by decide +kernel
theorem dX0_closeParagraph_16 : decode cX0_closeParagraph 16 = .ok (.aload_n 0, 1) := by decide +kernel
theorem dX0_closeParagraph_17 : decode cX0_closeParagraph 17 = .ok (.getfield 34, 3) := by decide +kernel
theorem dX0_closeParagraph_20 : decode cX0_closeParagraph 20 = .ok (.bipush 34, 2) := by decide +kernel
theorem dX0_closeParagraph_22 : decode cX0_closeParagraph 22 = .ok (.imul, 1) := by decide +kernel
theorem dX0_closeParagraph_23 : decode cX0_closeParagraph 23 = .ok (.if_icmp .ge 28, 3) := by decide +kernel
theorem dX0_closeParagraph_26 : decode cX0_closeParagraph 26 = .ok (.aload_n 0, 1) := by decide +kernel
theorem dX0_closeParagraph_27 : decode cX0_closeParagraph 27 = .ok (.getfield 15, 3) := by decide +kernel
theorem dX0_closeParagraph_30 : decode cX0_closeParagraph 30 = .ok (.iload_n 2, 1) := by decide +kernel
theorem dX0_closeParagraph_31 : decode cX0_closeParagraph 31 = .ok (.aload_n 0, 1) := by decide +kernel
theorem dX0_closeParagraph_32 : decode cX0_closeParagraph 32 = .ok (.getfield 15, 3) := by decide +kernel
theorem dX0_closeParagraph_35 : decode cX0_closeParagraph 35 = .ok (.iload_n 2, 1) := by decide +kernel
theorem dX0_closeParagraph_36 : decode cX0_closeParagraph 36 = .ok (.bipush 34, 2) := by decide +kernel
theorem dX0_closeParagraph_38 : decode cX0_closeParagraph 38 = .ok (.iadd, 1) := by decide +kernel
theorem dX0_closeParagraph_39 : decode cX0_closeParagraph 39 = .ok (.invokestatic 61, 3) := by decide +kernel
theorem dX0_closeParagraph_42 : decode cX0_closeParagraph 42 = .ok (.invokestatic 65, 3) := by decide +kernel
theorem dX0_closeParagraph_45 : decode cX0_closeParagraph 45 = .ok (.iinc 2 1, 3) := by decide +kernel
theorem dX0_closeParagraph_48 : decode cX0_closeParagraph 48 = .ok (.goto (-33), 3) := by decide +kernel
theorem dX0_closeParagraph_51 : decode cX0_closeParagraph 51 = .ok (.return_, 1) := by decide +kernel
theorem okX0_closeParagraph : okY yX0_closeParagraph 1 := ⟨by decide +kernel, by decide +kernel, by decide +kernel⟩
def wpX0_closeParagraph_L15 (a1 : Int32) (Post : Int32 → (Nat → Int32) → Prop)  : Nat → Int32 → (Nat → Int32) → Int32 → Prop
  | 0 => fun _ _ _ => False
  | n15 + 1 => fun paragraphs_v rows_v x2 => ((paragraphs_v * (34 : Int32)) ≤ x2 → Post paragraphs_v rows_v) ∧ (¬ (paragraphs_v * (34 : Int32)) ≤ x2 → wpX6_get 544 rows_v (x2 + (34 : Int32)) (fun r_1 => wpX6_put 544 rows_v x2 r_1 (fun rows_2 => (wpX0_closeParagraph_L15 a1 Post  n15) paragraphs_v rows_2 (x2 + (1 : Int32)))))
def wpX0_closeParagraph (paragraphs : Int32) (rows : Nat → Int32) (a1 : Int32) (Post : Int32 → (Nat → Int32) → Prop) : Prop := ∃ m_, wpX0_closeParagraph_L15 a1 Post  m_ (paragraphs - (1 : Int32)) rows (a1 * (34 : Int32))
set_option maxHeartbeats 4000000 in
set_option maxRecDepth 100000 in
theorem conX0_closeParagraph (l : Launch) (D : va_G) (cA : Nat → ClassId) (h_t h_t_rows : Nat) (u_t_costs : Value) (width : Int32) (height : Int32) (slack : Int32) (limit : Int32) (paragraphs : Int32) (rows : Nat → Int32) (a1 : Int32) (Post : Int32 → (Nat → Int32) → Prop) (H : wpX0_closeParagraph paragraphs rows a1 Post) : Con l D cA yX0_closeParagraph (wm yX0_closeParagraph cX0_closeParagraph 3 none) { frames := 1, cells := 0, slots := 0, locals := 22 } [(h_t, .inr (0, [.int width, .int height, .int slack, .int limit, .int paragraphs, u_t_costs, .ref h_t_rows])), (h_t_rows, .inl (cA 0, 544, .inl rows))] [.ref h_t, .int a1] 0 0 (PV (fun w1 => ∃ (paragraphs' : Int32) (rows' : Nat → Int32), w1 = [(h_t, .inr (0, [.int width, .int height, .int slack, .int limit, .int (paragraphs'), u_t_costs, .ref h_t_rows])), (h_t_rows, .inl (cA 0, 544, .inl (rows')))] ∧ Post paragraphs' rows')) := by
  refine Con.of (by decide) (Nat.le_of_ble_eq_true rfl) ?_
  intro p e s m args below meth c C hr hini
  have B15 : ∀  (n : Nat) (paragraphs_v : Int32) (rows_v : Nat → Int32) (x2 : Int32), wpX0_closeParagraph_L15 a1 Post  n paragraphs_v rows_v x2 → Kf p l e { frames := 1, cells := 0, slots := 0, locals := 22 } s m args below meth c D (va_A [(h_t, .inr (0, [.int width, .int height, .int slack, .int limit, .int paragraphs, u_t_costs, .ref h_t_rows])), (h_t_rows, .inl (cA 0, 544, .inl rows))] s.heap.size) 3 0 0 (MQ below (QC D [(h_t, .inr (0, [.int width, .int height, .int slack, .int limit, .int paragraphs, u_t_costs, .ref h_t_rows])), (h_t_rows, .inl (cA 0, 544, .inl rows))] s.heap.size (PV (fun w1 => ∃ (paragraphs' : Int32) (rows' : Nat → Int32), w1 = [(h_t, .inr (0, [.int width, .int height, .int slack, .int limit, .int (paragraphs'), u_t_costs, .ref h_t_rows])), (h_t_rows, .inl (cA 0, 544, .inl (rows')))] ∧ Post paragraphs' rows'))) args s 0 0 (va_A [(h_t, .inr (0, [.int width, .int height, .int slack, .int limit, .int paragraphs, u_t_costs, .ref h_t_rows])), (h_t_rows, .inl (cA 0, 544, .inl rows))] s.heap.size)) [(h_t, .inr (0, [.int width, .int height, .int slack, .int limit, .int paragraphs_v, u_t_costs, .ref h_t_rows])), (h_t_rows, .inl (cA 0, 544, .inl rows_v))] 15 [(0, .ref h_t), (2, .int x2)] [] := by
    intro  n
    induction n with
    | zero =>
      intro paragraphs_v rows_v x2 H
      exact H.elim
    | succ n15 ih15 =>
      intro paragraphs_v rows_v x2 H
      refine k_iload_n C 1 (pc := 15) dX0_closeParagraph_15 rfl rfl ?_
      refine k_aload_n C 0 (pc := 16) dX0_closeParagraph_16 rfl rfl ?_
      refine k_get C (pc := 17) inW_X0 0 4 rfl rfl (Nat.lt_of_lt_of_le (Nat.lt_succ_self _) (Nat.le_of_ble_eq_true rfl)) (ref := "WidowWatch$Book") tW_1_65 rfl rfl dX0_closeParagraph_17 ?_
      refine k_bipush C (pc := 20) (v := (34 : Int32)) dX0_closeParagraph_20 (by decide) ?_
      refine k_imul C (pc := 22) dX0_closeParagraph_22 ?_
      refine k_icmp_ge C (pc := 23) (tgt := 51) dX0_closeParagraph_23 (by decide) (fun c_23 => ?_) (fun c_23 => ?_)
      · have H := H.1 c_23
        exact k_vret C (pc := 51) hr dX0_closeParagraph_51 ⟨_, _, rfl, H⟩
      · have H := H.2 c_23
        refine k_aload_n C 0 (pc := 26) dX0_closeParagraph_26 rfl rfl ?_
        refine k_get C (pc := 27) inW_X0 0 6 rfl rfl (Nat.lt_of_lt_of_le (Nat.lt_succ_self _) (Nat.le_of_ble_eq_true rfl)) (ref := "WidowWatch$Book") tW_1_70 rfl rfl dX0_closeParagraph_27 ?_
        refine k_iload_n C 1 (pc := 30) dX0_closeParagraph_30 rfl rfl ?_
        refine k_aload_n C 0 (pc := 31) dX0_closeParagraph_31 rfl rfl ?_
        refine k_get C (pc := 32) inW_X0 0 6 rfl rfl (Nat.lt_of_lt_of_le (Nat.lt_succ_self _) (Nat.le_of_ble_eq_true rfl)) (ref := "WidowWatch$Book") tW_1_70 rfl rfl dX0_closeParagraph_32 ?_
        refine k_iload_n C 1 (pc := 35) dX0_closeParagraph_35 rfl rfl ?_
        refine k_bipush C (pc := 36) (v := (34 : Int32)) dX0_closeParagraph_36 (by decide) ?_
        refine k_iadd C (pc := 38) dX0_closeParagraph_38 ?_
        refine k_calli C (pc := 39) [1] [0] (wc := [(h_t_rows, .inl (cA 0, 544, .inl rows_v))]) (wr := [(h_t, .inr (0, [.int width, .int height, .int slack, .int limit, .int paragraphs_v, u_t_costs, .ref h_t_rows]))]) rfl rfl rfl rfl (by decide) (k_runSN C (As := [.ref h_t_rows, .int (x2 + (34 : Int32))]) (rest := [.int x2, .ref h_t_rows]) (conX6_get l D cA h_t_rows 544 rows_v (x2 + (34 : Int32))  _ H) ⟨k_cwN C tW_2_46 (k_n6 C) tW_1_1 okX6_get rfl rfl ⟨Nat.le_of_ble_eq_true rfl, Nat.le_of_ble_eq_true rfl⟩, C.w tW_2_45, trivial⟩ rfl rfl (Nat.le_of_ble_eq_true rfl) dX0_closeParagraph_39 ⟨Nat.le_of_ble_eq_true rfl, Nat.le_of_ble_eq_true rfl⟩) (fun r_1 w1_ hw_ => ?_)
        obtain ⟨rfl, H⟩ := hw_
        refine k_ws [0, 1] (ws' := [(h_t, .inr (0, [.int width, .int height, .int slack, .int limit, .int paragraphs_v, u_t_costs, .ref h_t_rows])), (h_t_rows, .inl (cA 0, 544, .inl rows_v))]) rfl rfl ?_
        refine k_callv C (pc := 42) [1] [0] (wc := [(h_t_rows, .inl (cA 0, 544, .inl rows_v))]) (wr := [(h_t, .inr (0, [.int width, .int height, .int slack, .int limit, .int paragraphs_v, u_t_costs, .ref h_t_rows]))]) rfl rfl rfl rfl (by decide) (k_runSN C (As := [.ref h_t_rows, .int x2, .int r_1]) (rest := []) (conX6_put l D cA h_t_rows 544 rows_v x2 r_1  _ H) ⟨k_cwN C tW_2_53 (k_n13 C) tW_1_1 okX6_put rfl rfl ⟨Nat.le_of_ble_eq_true rfl, Nat.le_of_ble_eq_true rfl⟩, C.w tW_2_52, trivial⟩ rfl rfl (Nat.le_of_ble_eq_true rfl) dX0_closeParagraph_42 ⟨Nat.le_of_ble_eq_true rfl, Nat.le_of_ble_eq_true rfl⟩) (fun w1_ hw_ => ?_)
        obtain ⟨rows_2, rfl, H⟩ := hw_
        refine k_ws [0, 1] (ws' := [(h_t, .inr (0, [.int width, .int height, .int slack, .int limit, .int paragraphs_v, u_t_costs, .ref h_t_rows])), (h_t_rows, .inl (cA 0, 544, .inl rows_2))]) rfl rfl ?_
        refine k_iinc C (pc := 45) (k := 1) (v := x2 + (1 : Int32)) dX0_closeParagraph_45 rfl rfl (Nat.lt_of_lt_of_le (Nat.lt_succ_self _) (Nat.le_of_ble_eq_true rfl)) (lv' := [(2, .int (x2 + (1 : Int32))), (0, .ref h_t)]) rfl ?_
        refine k_goto C (pc := 48) (tgt := 15) dX0_closeParagraph_48 (by decide) ?_
        refine k_lv (pc := 15) [1, 0] (lv' := [(0, .ref h_t), (2, .int (x2 + (1 : Int32)))]) rfl ?_
        exact ih15 paragraphs_v rows_2 (x2 + (1 : Int32)) H
  refine k_eq (ws' := [(h_t, .inr (0, [.int width, .int height, .int slack, .int limit, .int paragraphs, u_t_costs, .ref h_t_rows])), (h_t_rows, .inl (cA 0, 544, .inl rows))]) (lv' := [(0, .ref h_t), (1, .int a1)]) (st' := []) rfl rfl rfl ?_
  refine k_aload_n C 0 (pc := 0) dX0_closeParagraph_0 rfl rfl ?_
  refine k_dup C (pc := 1) dX0_closeParagraph_1 rfl ?_
  refine k_get C (pc := 2) inW_X0 0 4 rfl rfl (Nat.lt_of_lt_of_le (Nat.lt_succ_self _) (Nat.le_of_ble_eq_true rfl)) (ref := "WidowWatch$Book") tW_1_65 rfl rfl dX0_closeParagraph_2 ?_
  refine k_iconst C (pc := 5) (v := (1 : Int32)) dX0_closeParagraph_5 rfl ?_
  refine k_isub C (pc := 6) dX0_closeParagraph_6 ?_
  refine k_put C (pc := 7) inW_X0 tyX0 tyX0_ok nmX0 0 4 rfl rfl (Nat.lt_of_lt_of_le (Nat.lt_succ_self _) (Nat.le_of_ble_eq_true rfl)) (ref := "WidowWatch$Book") tW_1_65 rfl rfl rfl (ty := .int) rfl rfl (Nat.lt_of_lt_of_le (Nat.lt_succ_self _) (Nat.le_of_ble_eq_true rfl)) (fs' := [.int width, .int height, .int slack, .int limit, .int (paragraphs - (1 : Int32)), u_t_costs, .ref h_t_rows]) rfl (ws' := [(h_t, .inr (0, [.int width, .int height, .int slack, .int limit, .int (paragraphs - (1 : Int32)), u_t_costs, .ref h_t_rows])), (h_t_rows, .inl (cA 0, 544, .inl rows))]) rfl dX0_closeParagraph_7 ?_
  refine k_iload_n C 1 (pc := 10) dX0_closeParagraph_10 rfl rfl ?_
  refine k_bipush C (pc := 11) (v := (34 : Int32)) dX0_closeParagraph_11 (by decide) ?_
  refine k_imul C (pc := 13) dX0_closeParagraph_13 ?_
  refine k_istore_n C (pc := 14) dX0_closeParagraph_14 rfl (Nat.lt_of_lt_of_le (Nat.lt_succ_self _) (Nat.le_of_ble_eq_true rfl)) (lv' := [(2, .int (a1 * (34 : Int32))), (0, .ref h_t), (1, .int a1)]) rfl ?_
  obtain ⟨n_, H⟩ := H
  refine k_lv (pc := 15) [1, 0] (lv' := [(0, .ref h_t), (2, .int (a1 * (34 : Int32)))]) rfl ?_
  exact B15  n_ (paragraphs - (1 : Int32)) rows (a1 * (34 : Int32)) H
/-! WidowWatch$Book.mustEnd(IZ)Z -/
theorem dX0_mustEnd_0 : decode cX0_mustEnd 0 = .ok (.iload_n 1, 1) := by decide +kernel
theorem dX0_mustEnd_1 : decode cX0_mustEnd 1 = .ok (.ifCond .le 19, 3) := by decide +kernel
theorem dX0_mustEnd_4 : decode cX0_mustEnd 4 = .ok (.iload_n 2, 1) := by decide +kernel
theorem dX0_mustEnd_5 : decode cX0_mustEnd 5 = .ok (.ifCond .ne 11, 3) := by decide +kernel
theorem dX0_mustEnd_8 : decode cX0_mustEnd 8 = .ok (.iload_n 1, 1) := by decide +kernel
theorem dX0_mustEnd_9 : decode cX0_mustEnd 9 = .ok (.aload_n 0, 1) := by decide +kernel
theorem dX0_mustEnd_10 : decode cX0_mustEnd 10 = .ok (.getfield 25, 3) := by decide +kernel
theorem dX0_mustEnd_13 : decode cX0_mustEnd 13 = .ok (.if_icmp .lt 7, 3) := by decide +kernel
theorem dX0_mustEnd_16 : decode cX0_mustEnd 16 = .ok (.iconst 1, 1) := by decide +kernel
theorem dX0_mustEnd_17 : decode cX0_mustEnd 17 = .ok (.goto 4, 3) := by decide +kernel
theorem dX0_mustEnd_20 : decode cX0_mustEnd 20 = .ok (.iconst 0, 1) := by decide +kernel
theorem dX0_mustEnd_21 : decode cX0_mustEnd 21 = .ok (.ireturn, 1) := by decide +kernel
theorem okX0_mustEnd : okY yX0_mustEnd 2 := ⟨by decide +kernel, by decide +kernel, by decide +kernel⟩
def wpX0_mustEnd_b16 (height : Int32) (a1 : Int32) (a2 : Int32) (Post : Int32 → Prop)   : Prop := Post (1 : Int32)
def wpX0_mustEnd (height : Int32) (a1 : Int32) (a2 : Int32) (Post : Int32 → Prop) : Prop := (a1 ≤ 0 → Post (0 : Int32)) ∧ (¬ a1 ≤ 0 → (¬ a2 = 0 → wpX0_mustEnd_b16 height a1 a2 Post  ) ∧ (a2 = 0 → (a1 < height → Post (0 : Int32)) ∧ (¬ a1 < height → wpX0_mustEnd_b16 height a1 a2 Post  )))
set_option maxHeartbeats 4000000 in
set_option maxRecDepth 100000 in
theorem conX0_mustEnd (l : Launch) (D : va_G) (cA : Nat → ClassId) (h_t : Nat) (u_t_costs u_t_rows : Value) (width : Int32) (height : Int32) (slack : Int32) (limit : Int32) (paragraphs : Int32) (a1 : Int32) (a2 : Int32) (Post : Int32 → Prop) (H : wpX0_mustEnd height a1 a2 Post) : Con l D cA yX0_mustEnd (wm yX0_mustEnd cX0_mustEnd 3 (some .boolean)) { frames := 0, cells := 0, slots := 0, locals := 0 } [(h_t, .inr (0, [.int width, .int height, .int slack, .int limit, .int paragraphs, u_t_costs, u_t_rows]))] [.ref h_t, .int a1, .int a2] 0 0 (PI (fun r w1 => w1 = [(h_t, .inr (0, [.int width, .int height, .int slack, .int limit, .int paragraphs, u_t_costs, u_t_rows]))] ∧ Post r)) := by
  refine Con.of (by decide) (Nat.le_of_ble_eq_true rfl) ?_
  intro p e s m args below meth c C hr hini
  have B16 : wpX0_mustEnd_b16 height a1 a2 Post   → Kf p l e { frames := 0, cells := 0, slots := 0, locals := 0 } s m args below meth c D (va_A [(h_t, .inr (0, [.int width, .int height, .int slack, .int limit, .int paragraphs, u_t_costs, u_t_rows]))] s.heap.size) 3 0 0 (MQ below (QC D [(h_t, .inr (0, [.int width, .int height, .int slack, .int limit, .int paragraphs, u_t_costs, u_t_rows]))] s.heap.size (PI (fun r w1 => w1 = [(h_t, .inr (0, [.int width, .int height, .int slack, .int limit, .int paragraphs, u_t_costs, u_t_rows]))] ∧ Post r))) args s 0 0 (va_A [(h_t, .inr (0, [.int width, .int height, .int slack, .int limit, .int paragraphs, u_t_costs, u_t_rows]))] s.heap.size)) [(h_t, .inr (0, [.int width, .int height, .int slack, .int limit, .int paragraphs, u_t_costs, u_t_rows]))] 16 [] [] := by
    intro   H
    refine k_iconst C (pc := 16) (v := (1 : Int32)) dX0_mustEnd_16 rfl ?_
    refine k_goto C (pc := 17) (tgt := 21) dX0_mustEnd_17 (by decide) ?_
    exact k_zret C (pc := 21) hr rfl dX0_mustEnd_21 ⟨rfl, H⟩
  refine k_eq (ws' := [(h_t, .inr (0, [.int width, .int height, .int slack, .int limit, .int paragraphs, u_t_costs, u_t_rows]))]) (lv' := [(0, .ref h_t), (1, .int a1), (2, .int a2)]) (st' := []) rfl rfl rfl ?_
  refine k_iload_n C 1 (pc := 0) dX0_mustEnd_0 rfl rfl ?_
  refine k_if_le C (pc := 1) (tgt := 20) dX0_mustEnd_1 (by decide) (fun c_1 => ?_) (fun c_1 => ?_)
  · have H := H.1 c_1
    refine k_iconst C (pc := 20) (v := (0 : Int32)) dX0_mustEnd_20 rfl ?_
    exact k_zret C (pc := 21) hr rfl dX0_mustEnd_21 ⟨rfl, H⟩
  · have H := H.2 c_1
    refine k_iload_n C 2 (pc := 4) dX0_mustEnd_4 rfl rfl ?_
    refine k_if_ne C (pc := 5) (tgt := 16) dX0_mustEnd_5 (by decide) (fun c_5 => ?_) (fun c_5 => ?_)
    · have H := H.1 c_5
      refine k_lv (pc := 16) [] (lv' := []) rfl ?_
      exact B16   H
    · have H := H.2 c_5
      refine k_iload_n C 1 (pc := 8) dX0_mustEnd_8 rfl rfl ?_
      refine k_aload_n C 0 (pc := 9) dX0_mustEnd_9 rfl rfl ?_
      refine k_get C (pc := 10) inW_X0 0 1 rfl rfl (Nat.lt_of_lt_of_le (Nat.lt_succ_self _) (Nat.le_of_ble_eq_true rfl)) (ref := "WidowWatch$Book") tW_1_57 rfl rfl dX0_mustEnd_10 ?_
      refine k_icmp_lt C (pc := 13) (tgt := 20) dX0_mustEnd_13 (by decide) (fun c_13 => ?_) (fun c_13 => ?_)
      · have H := H.1 c_13
        refine k_iconst C (pc := 20) (v := (0 : Int32)) dX0_mustEnd_20 rfl ?_
        exact k_zret C (pc := 21) hr rfl dX0_mustEnd_21 ⟨rfl, H⟩
      · have H := H.2 c_13
        refine k_lv (pc := 16) [] (lv' := []) rfl ?_
        exact B16   H
/-! WidowWatch$Book.canEnd(I)Z -/
theorem dX0_canEnd_0 : decode cX0_canEnd 0 = .ok (.iload_n 1, 1) := by decide +kernel
theorem dX0_canEnd_1 : decode cX0_canEnd 1 = .ok (.ifCond .le 20, 3) := by decide +kernel
theorem dX0_canEnd_4 : decode cX0_canEnd 4 = .ok (.aload_n 0, 1) := by decide +kernel
theorem dX0_canEnd_5 : decode cX0_canEnd 5 = .ok (.getfield 25, 3) := by decide +kernel
theorem dX0_canEnd_8 : decode cX0_canEnd 8 = .ok (.iload_n 1, 1) := by decide +kernel
theorem dX0_canEnd_9 : decode cX0_canEnd 9 = .ok (.isub, 1) := by decide +kernel
theorem dX0_canEnd_10 : decode cX0_canEnd 10 = .ok (.aload_n 0, 1) := by decide +kernel
theorem dX0_canEnd_11 : decode cX0_canEnd 11 = .ok (.getfield 31, 3) := by decide +kernel
theorem dX0_canEnd_14 : decode cX0_canEnd 14 = .ok (.if_icmp .gt 7, 3) := by decide +kernel
theorem dX0_canEnd_17 : decode cX0_canEnd 17 = .ok (.iconst 1, 1) := by decide +kernel
theorem dX0_canEnd_18 : decode cX0_canEnd 18 = .ok (.goto 4, 3) := by decide +kernel
theorem dX0_canEnd_21 : decode cX0_canEnd 21 = .ok (.iconst 0, 1) := by decide +kernel
theorem dX0_canEnd_22 : decode cX0_canEnd 22 = .ok (.ireturn, 1) := by decide +kernel
theorem okX0_canEnd : okY yX0_canEnd 1 := ⟨by decide +kernel, by decide +kernel, by decide +kernel⟩
def wpX0_canEnd (height : Int32) (limit : Int32) (a1 : Int32) (Post : Int32 → Prop) : Prop := (a1 ≤ 0 → Post (0 : Int32)) ∧ (¬ a1 ≤ 0 → (limit < (height - a1) → Post (0 : Int32)) ∧ (¬ limit < (height - a1) → Post (1 : Int32)))
set_option maxHeartbeats 4000000 in
set_option maxRecDepth 100000 in
theorem conX0_canEnd (l : Launch) (D : va_G) (cA : Nat → ClassId) (h_t : Nat) (u_t_costs u_t_rows : Value) (width : Int32) (height : Int32) (slack : Int32) (limit : Int32) (paragraphs : Int32) (a1 : Int32) (Post : Int32 → Prop) (H : wpX0_canEnd height limit a1 Post) : Con l D cA yX0_canEnd (wm yX0_canEnd cX0_canEnd 2 (some .boolean)) { frames := 0, cells := 0, slots := 0, locals := 0 } [(h_t, .inr (0, [.int width, .int height, .int slack, .int limit, .int paragraphs, u_t_costs, u_t_rows]))] [.ref h_t, .int a1] 0 0 (PI (fun r w1 => w1 = [(h_t, .inr (0, [.int width, .int height, .int slack, .int limit, .int paragraphs, u_t_costs, u_t_rows]))] ∧ Post r)) := by
  refine Con.of (by decide) (Nat.le_of_ble_eq_true rfl) ?_
  intro p e s m args below meth c C hr hini
  refine k_eq (ws' := [(h_t, .inr (0, [.int width, .int height, .int slack, .int limit, .int paragraphs, u_t_costs, u_t_rows]))]) (lv' := [(0, .ref h_t), (1, .int a1)]) (st' := []) rfl rfl rfl ?_
  refine k_iload_n C 1 (pc := 0) dX0_canEnd_0 rfl rfl ?_
  refine k_if_le C (pc := 1) (tgt := 21) dX0_canEnd_1 (by decide) (fun c_1 => ?_) (fun c_1 => ?_)
  · have H := H.1 c_1
    refine k_iconst C (pc := 21) (v := (0 : Int32)) dX0_canEnd_21 rfl ?_
    exact k_zret C (pc := 22) hr rfl dX0_canEnd_22 ⟨rfl, H⟩
  · have H := H.2 c_1
    refine k_aload_n C 0 (pc := 4) dX0_canEnd_4 rfl rfl ?_
    refine k_get C (pc := 5) inW_X0 0 1 rfl rfl (Nat.lt_of_lt_of_le (Nat.lt_succ_self _) (Nat.le_of_ble_eq_true rfl)) (ref := "WidowWatch$Book") tW_1_57 rfl rfl dX0_canEnd_5 ?_
    refine k_iload_n C 1 (pc := 8) dX0_canEnd_8 rfl rfl ?_
    refine k_isub C (pc := 9) dX0_canEnd_9 ?_
    refine k_aload_n C 0 (pc := 10) dX0_canEnd_10 rfl rfl ?_
    refine k_get C (pc := 11) inW_X0 0 3 rfl rfl (Nat.lt_of_lt_of_le (Nat.lt_succ_self _) (Nat.le_of_ble_eq_true rfl)) (ref := "WidowWatch$Book") tW_1_62 rfl rfl dX0_canEnd_11 ?_
    refine k_icmp_gt C (pc := 14) (tgt := 21) dX0_canEnd_14 (by decide) (fun c_14 => ?_) (fun c_14 => ?_)
    · have H := H.1 c_14
      refine k_iconst C (pc := 21) (v := (0 : Int32)) dX0_canEnd_21 rfl ?_
      exact k_zret C (pc := 22) hr rfl dX0_canEnd_22 ⟨rfl, H⟩
    · have H := H.2 c_14
      refine k_iconst C (pc := 17) (v := (1 : Int32)) dX0_canEnd_17 rfl ?_
      refine k_goto C (pc := 18) (tgt := 22) dX0_canEnd_18 (by decide) ?_
      exact k_zret C (pc := 22) hr rfl dX0_canEnd_22 ⟨rfl, H⟩
/-! WidowWatch$Book.endCost(IZ)I -/
theorem dX0_endCost_0 : decode cX0_endCost 0 = .ok (.iload_n 2, 1) := by decide +kernel
theorem dX0_endCost_1 : decode cX0_endCost 1 = .ok (.ifCond .eq 7, 3) := by decide +kernel
theorem dX0_endCost_4 : decode cX0_endCost 4 = .ok (.iconst 0, 1) := by decide +kernel
theorem dX0_endCost_5 : decode cX0_endCost 5 = .ok (.goto 18, 3) := by decide +kernel
theorem dX0_endCost_8 : decode cX0_endCost 8 = .ok (.aload_n 0, 1) := by decide +kernel
theorem dX0_endCost_9 : decode cX0_endCost 9 = .ok (.getfield 25, 3) := by decide +kernel
theorem dX0_endCost_12 : decode cX0_endCost 12 = .ok (.iload_n 1, 1) := by decide +kernel
theorem dX0_endCost_13 : decode cX0_endCost 13 = .ok (.isub, 1) := by decide +kernel
theorem dX0_endCost_14 : decode cX0_endCost 14 = .ok (.aload_n 0, 1) := by decide +kernel
theorem dX0_endCost_15 : decode cX0_endCost 15 = .ok (.getfield 11, 3) := by decide +kernel
theorem dX0_endCost_18 : decode cX0_endCost 18 = .ok (.iconst 2, 1) := by decide +kernel
theorem dX0_endCost_19 : decode cX0_endCost 19 = .ok (.invokestatic 61, 3) := by decide +kernel
theorem dX0_endCost_22 : decode cX0_endCost 22 = .ok (.imul, 1) := by decide +kernel
theorem dX0_endCost_23 : decode cX0_endCost 23 = .ok (.ireturn, 1) := by decide +kernel
theorem okX0_endCost : okY yX0_endCost 2 := ⟨by decide +kernel, by decide +kernel, by decide +kernel⟩
def wpX0_endCost (height : Int32) (costs : Nat → Int32) (a1 : Int32) (a2 : Int32) (Post : Int32 → Prop) : Prop := (a2 = 0 → wpX6_get 6 costs (2 : Int32) (fun r_1 => Post ((height - a1) * r_1))) ∧ (¬ a2 = 0 → Post (0 : Int32))
set_option maxHeartbeats 4000000 in
set_option maxRecDepth 100000 in
theorem conX0_endCost (l : Launch) (D : va_G) (cA : Nat → ClassId) (h_t h_t_costs : Nat) (u_t_rows : Value) (width : Int32) (height : Int32) (slack : Int32) (limit : Int32) (paragraphs : Int32) (costs : Nat → Int32) (a1 : Int32) (a2 : Int32) (Post : Int32 → Prop) (H : wpX0_endCost height costs a1 a2 Post) : Con l D cA yX0_endCost (wm yX0_endCost cX0_endCost 3 (some .int)) { frames := 1, cells := 0, slots := 0, locals := 21 } [(h_t, .inr (0, [.int width, .int height, .int slack, .int limit, .int paragraphs, .ref h_t_costs, u_t_rows])), (h_t_costs, .inl (cA 0, 6, .inl costs))] [.ref h_t, .int a1, .int a2] 0 0 (PI (fun r w1 => w1 = [(h_t, .inr (0, [.int width, .int height, .int slack, .int limit, .int paragraphs, .ref h_t_costs, u_t_rows])), (h_t_costs, .inl (cA 0, 6, .inl costs))] ∧ Post r)) := by
  refine Con.of (by decide) (Nat.le_of_ble_eq_true rfl) ?_
  intro p e s m args below meth c C hr hini
  refine k_eq (ws' := [(h_t, .inr (0, [.int width, .int height, .int slack, .int limit, .int paragraphs, .ref h_t_costs, u_t_rows])), (h_t_costs, .inl (cA 0, 6, .inl costs))]) (lv' := [(0, .ref h_t), (1, .int a1), (2, .int a2)]) (st' := []) rfl rfl rfl ?_
  refine k_iload_n C 2 (pc := 0) dX0_endCost_0 rfl rfl ?_
  refine k_if_eq C (pc := 1) (tgt := 8) dX0_endCost_1 (by decide) (fun c_1 => ?_) (fun c_1 => ?_)
  · have H := H.1 c_1
    refine k_aload_n C 0 (pc := 8) dX0_endCost_8 rfl rfl ?_
    refine k_get C (pc := 9) inW_X0 0 1 rfl rfl (Nat.lt_of_lt_of_le (Nat.lt_succ_self _) (Nat.le_of_ble_eq_true rfl)) (ref := "WidowWatch$Book") tW_1_57 rfl rfl dX0_endCost_9 ?_
    refine k_iload_n C 1 (pc := 12) dX0_endCost_12 rfl rfl ?_
    refine k_isub C (pc := 13) dX0_endCost_13 ?_
    refine k_aload_n C 0 (pc := 14) dX0_endCost_14 rfl rfl ?_
    refine k_get C (pc := 15) inW_X0 0 5 rfl rfl (Nat.lt_of_lt_of_le (Nat.lt_succ_self _) (Nat.le_of_ble_eq_true rfl)) (ref := "WidowWatch$Book") tW_1_69 rfl rfl dX0_endCost_15 ?_
    refine k_iconst C (pc := 18) (v := (2 : Int32)) dX0_endCost_18 rfl ?_
    refine k_calli C (pc := 19) [1] [0] (wc := [(h_t_costs, .inl (cA 0, 6, .inl costs))]) (wr := [(h_t, .inr (0, [.int width, .int height, .int slack, .int limit, .int paragraphs, .ref h_t_costs, u_t_rows]))]) rfl rfl rfl rfl (by decide) (k_runSN C (As := [.ref h_t_costs, .int (2 : Int32)]) (rest := [.int (height - a1)]) (conX6_get l D cA h_t_costs 6 costs (2 : Int32)  _ H) ⟨k_cwN C tW_2_46 (k_n6 C) tW_1_1 okX6_get rfl rfl ⟨Nat.le_of_ble_eq_true rfl, Nat.le_of_ble_eq_true rfl⟩, C.w tW_2_45, trivial⟩ rfl rfl (Nat.le_of_ble_eq_true rfl) dX0_endCost_19 ⟨Nat.le_of_ble_eq_true rfl, Nat.le_of_ble_eq_true rfl⟩) (fun r_1 w1_ hw_ => ?_)
    obtain ⟨rfl, H⟩ := hw_
    refine k_ws [0, 1] (ws' := [(h_t, .inr (0, [.int width, .int height, .int slack, .int limit, .int paragraphs, .ref h_t_costs, u_t_rows])), (h_t_costs, .inl (cA 0, 6, .inl costs))]) rfl rfl ?_
    refine k_imul C (pc := 22) dX0_endCost_22 ?_
    exact k_iret C (pc := 23) hr dX0_endCost_23 ⟨rfl, H⟩
  · have H := H.2 c_1
    refine k_iconst C (pc := 4) (v := (0 : Int32)) dX0_endCost_4 rfl ?_
    refine k_goto C (pc := 5) (tgt := 23) dX0_endCost_5 (by decide) ?_
    exact k_iret C (pc := 23) hr dX0_endCost_23 ⟨rfl, H⟩
/-! WidowWatch$Lines.isWidow(II)Z -/
theorem dX2_isWidow_0 : decode cX2_isWidow 0 = .ok (.iload_n 1, 1) := by decide +kernel
theorem dX2_isWidow_1 : decode cX2_isWidow 1 = .ok (.iconst 2, 1) := by decide +kernel
theorem dX2_isWidow_2 : decode cX2_isWidow 2 = .ok (.if_icmp .lt 14, 3) := by decide +kernel
theorem dX2_isWidow_5 : decode cX2_isWidow 5 = .ok (.iload_n 0, 1) := by decide +kernel
theorem dX2_isWidow_6 : decode cX2_isWidow 6 = .ok (.iload_n 1, 1) := by decide +kernel
theorem dX2_isWidow_7 : decode cX2_isWidow 7 = .ok (.iconst 1, 1) := by decide +kernel
theorem dX2_isWidow_8 : decode cX2_isWidow 8 = .ok (.isub, 1) := by decide +kernel
theorem dX2_isWidow_9 : decode cX2_isWidow 9 = .ok (.if_icmp .ne 7, 3) := by decide +kernel
theorem dX2_isWidow_12 : decode cX2_isWidow 12 = .ok (.iconst 1, 1) := by decide +kernel
theorem dX2_isWidow_13 : decode cX2_isWidow 13 = .ok (.goto 4, 3) := by decide +kernel
theorem dX2_isWidow_16 : decode cX2_isWidow 16 = .ok (.iconst 0, 1) := by decide +kernel
theorem dX2_isWidow_17 : decode cX2_isWidow 17 = .ok (.ireturn, 1) := by decide +kernel
theorem okX2_isWidow : okY yX2_isWidow 2 := ⟨by decide +kernel, by decide +kernel, by decide +kernel⟩
def wpX2_isWidow (a1 : Int32) (a2 : Int32) (Post : Int32 → Prop) : Prop := (a2 < (2 : Int32) → Post (0 : Int32)) ∧ (¬ a2 < (2 : Int32) → (¬ a1 = (a2 - (1 : Int32)) → Post (0 : Int32)) ∧ (a1 = (a2 - (1 : Int32)) → Post (1 : Int32)))
set_option maxHeartbeats 4000000 in
set_option maxRecDepth 100000 in
theorem conX2_isWidow (l : Launch) (D : va_G) (cA : Nat → ClassId) (a1 : Int32) (a2 : Int32) (Post : Int32 → Prop) (H : wpX2_isWidow a1 a2 Post) : Con l D cA yX2_isWidow (wm yX2_isWidow cX2_isWidow 2 (some .boolean)) { frames := 0, cells := 0, slots := 0, locals := 0 } [] [.int a1, .int a2] 0 0 (PI (fun r w1 => w1 = [] ∧ Post r)) := by
  refine Con.of (by decide) (Nat.le_of_ble_eq_true rfl) ?_
  intro p e s m args below meth c C hr hini
  refine k_eq (ws' := []) (lv' := [(0, .int a1), (1, .int a2)]) (st' := []) rfl rfl rfl ?_
  refine k_iload_n C 1 (pc := 0) dX2_isWidow_0 rfl rfl ?_
  refine k_iconst C (pc := 1) (v := (2 : Int32)) dX2_isWidow_1 rfl ?_
  refine k_icmp_lt C (pc := 2) (tgt := 16) dX2_isWidow_2 (by decide) (fun c_2 => ?_) (fun c_2 => ?_)
  · have H := H.1 c_2
    refine k_iconst C (pc := 16) (v := (0 : Int32)) dX2_isWidow_16 rfl ?_
    exact k_zret C (pc := 17) hr rfl dX2_isWidow_17 ⟨rfl, H⟩
  · have H := H.2 c_2
    refine k_iload_n C 0 (pc := 5) dX2_isWidow_5 rfl rfl ?_
    refine k_iload_n C 1 (pc := 6) dX2_isWidow_6 rfl rfl ?_
    refine k_iconst C (pc := 7) (v := (1 : Int32)) dX2_isWidow_7 rfl ?_
    refine k_isub C (pc := 8) dX2_isWidow_8 ?_
    refine k_icmp_ne C (pc := 9) (tgt := 16) dX2_isWidow_9 (by decide) (fun c_9 => ?_) (fun c_9 => ?_)
    · have H := H.1 c_9
      refine k_iconst C (pc := 16) (v := (0 : Int32)) dX2_isWidow_16 rfl ?_
      exact k_zret C (pc := 17) hr rfl dX2_isWidow_17 ⟨rfl, H⟩
    · have H := H.2 c_9
      refine k_iconst C (pc := 12) (v := (1 : Int32)) dX2_isWidow_12 rfl ?_
      refine k_goto C (pc := 13) (tgt := 17) dX2_isWidow_13 (by decide) ?_
      exact k_zret C (pc := 17) hr rfl dX2_isWidow_17 ⟨rfl, H⟩
/-! WidowWatch$Lines.isOrphan(II)Z -/
theorem dX2_isOrphan_0 : decode cX2_isOrphan 0 = .ok (.iload_n 1, 1) := by decide +kernel
theorem dX2_isOrphan_1 : decode cX2_isOrphan 1 = .ok (.iconst 2, 1) := by decide +kernel
theorem dX2_isOrphan_2 : decode cX2_isOrphan 2 = .ok (.if_icmp .lt 12, 3) := by decide +kernel
theorem dX2_isOrphan_5 : decode cX2_isOrphan 5 = .ok (.iload_n 0, 1) := by decide +kernel
theorem dX2_isOrphan_6 : decode cX2_isOrphan 6 = .ok (.iconst 1, 1) := by decide +kernel
theorem dX2_isOrphan_7 : decode cX2_isOrphan 7 = .ok (.if_icmp .ne 7, 3) := by decide +kernel
theorem dX2_isOrphan_10 : decode cX2_isOrphan 10 = .ok (.iconst 1, 1) := by decide +kernel
theorem dX2_isOrphan_11 : decode cX2_isOrphan 11 = .ok (.goto 4, 3) := by decide +kernel
theorem dX2_isOrphan_14 : decode cX2_isOrphan 14 = .ok (.iconst 0, 1) := by decide +kernel
theorem dX2_isOrphan_15 : decode cX2_isOrphan 15 = .ok (.ireturn, 1) := by decide +kernel
theorem okX2_isOrphan : okY yX2_isOrphan 2 := ⟨by decide +kernel, by decide +kernel, by decide +kernel⟩
def wpX2_isOrphan (a1 : Int32) (a2 : Int32) (Post : Int32 → Prop) : Prop := (a2 < (2 : Int32) → Post (0 : Int32)) ∧ (¬ a2 < (2 : Int32) → (¬ a1 = (1 : Int32) → Post (0 : Int32)) ∧ (a1 = (1 : Int32) → Post (1 : Int32)))
set_option maxHeartbeats 4000000 in
set_option maxRecDepth 100000 in
theorem conX2_isOrphan (l : Launch) (D : va_G) (cA : Nat → ClassId) (a1 : Int32) (a2 : Int32) (Post : Int32 → Prop) (H : wpX2_isOrphan a1 a2 Post) : Con l D cA yX2_isOrphan (wm yX2_isOrphan cX2_isOrphan 2 (some .boolean)) { frames := 0, cells := 0, slots := 0, locals := 0 } [] [.int a1, .int a2] 0 0 (PI (fun r w1 => w1 = [] ∧ Post r)) := by
  refine Con.of (by decide) (Nat.le_of_ble_eq_true rfl) ?_
  intro p e s m args below meth c C hr hini
  refine k_eq (ws' := []) (lv' := [(0, .int a1), (1, .int a2)]) (st' := []) rfl rfl rfl ?_
  refine k_iload_n C 1 (pc := 0) dX2_isOrphan_0 rfl rfl ?_
  refine k_iconst C (pc := 1) (v := (2 : Int32)) dX2_isOrphan_1 rfl ?_
  refine k_icmp_lt C (pc := 2) (tgt := 14) dX2_isOrphan_2 (by decide) (fun c_2 => ?_) (fun c_2 => ?_)
  · have H := H.1 c_2
    refine k_iconst C (pc := 14) (v := (0 : Int32)) dX2_isOrphan_14 rfl ?_
    exact k_zret C (pc := 15) hr rfl dX2_isOrphan_15 ⟨rfl, H⟩
  · have H := H.2 c_2
    refine k_iload_n C 0 (pc := 5) dX2_isOrphan_5 rfl rfl ?_
    refine k_iconst C (pc := 6) (v := (1 : Int32)) dX2_isOrphan_6 rfl ?_
    refine k_icmp_ne C (pc := 7) (tgt := 14) dX2_isOrphan_7 (by decide) (fun c_7 => ?_) (fun c_7 => ?_)
    · have H := H.1 c_7
      refine k_iconst C (pc := 14) (v := (0 : Int32)) dX2_isOrphan_14 rfl ?_
      exact k_zret C (pc := 15) hr rfl dX2_isOrphan_15 ⟨rfl, H⟩
    · have H := H.2 c_7
      refine k_iconst C (pc := 10) (v := (1 : Int32)) dX2_isOrphan_10 rfl ?_
      refine k_goto C (pc := 11) (tgt := 15) dX2_isOrphan_11 (by decide) ?_
      exact k_zret C (pc := 15) hr rfl dX2_isOrphan_15 ⟨rfl, H⟩
/-! WidowWatch$Book.beginCost(IIZ)I -/
theorem dX0_beginCost_0 : decode cX0_beginCost 0 = .ok (.iload_n 1, 1) := by decide +kernel
theorem dX0_beginCost_1 : decode cX0_beginCost 1 = .ok (.iload_n 2, 1) := by decide +kernel
theorem dX0_beginCost_2 : decode cX0_beginCost 2 = .ok (.invokestatic 85, 3) := by decide +kernel
theorem dX0_beginCost_5 : decode cX0_beginCost 5 = .ok (.ifCond .eq 14, 3) := by decide +kernel
theorem dX0_beginCost_8 : decode cX0_beginCost 8 = .ok (.aload_n 0, 1) := by decide +kernel
theorem dX0_beginCost_9 : decode cX0_beginCost 9 = .ok (.getfield 11, 3) := by decide +kernel
theorem dX0_beginCost_12 : decode cX0_beginCost 12 = .ok (.iconst 3, 1) := by decide +kernel
theorem dX0_beginCost_13 : decode cX0_beginCost 13 = .ok (.invokestatic 61, 3) := by decide +kernel
theorem dX0_beginCost_16 : decode cX0_beginCost 16 = .ok (.goto 4, 3) := by decide +kernel
theorem dX0_beginCost_19 : decode cX0_beginCost 19 = .ok (.iconst 0, 1) := by decide +kernel
theorem dX0_beginCost_20 : decode cX0_beginCost 20 = .ok (.istore 4, 2) := by decide +kernel
theorem dX0_beginCost_22 : decode cX0_beginCost 22 = .ok (.iload 4, 2) := by decide +kernel
theorem dX0_beginCost_24 : decode cX0_beginCost 24 = .ok (.iload_n 1, 1) := by decide +kernel
theorem dX0_beginCost_25 : decode cX0_beginCost 25 = .ok (.iload_n 2, 1) := by decide +kernel
theorem dX0_beginCost_26 : decode cX0_beginCost 26 = .ok (.invokestatic 91, 3) := by decide +kernel
theorem dX0_beginCost_29 : decode cX0_beginCost 29 = .ok (.ifCond .eq 14, 3) := by decide +kernel
theorem dX0_beginCost_32 : decode cX0_beginCost 32 = .ok (.aload_n 0, 1) := by decide +kernel
theorem dX0_beginCost_33 : decode cX0_beginCost 33 = .ok (.getfield 11, 3) := by decide +kernel
theorem dX0_beginCost_36 : decode cX0_beginCost 36 = .ok (.iconst 4, 1) := by decide +kernel
theorem dX0_beginCost_37 : decode cX0_beginCost 37 = .ok (.invokestatic 61, 3) := by decide +kernel
theorem dX0_beginCost_40 : decode cX0_beginCost 40 = .ok (.goto 4, 3) := by decide +kernel
theorem dX0_beginCost_43 : decode cX0_beginCost 43 = .ok (.iconst 0, 1) := by decide +kernel
theorem dX0_beginCost_44 : decode cX0_beginCost 44 = .ok (.iadd, 1) := by decide +kernel
theorem dX0_beginCost_45 : decode cX0_beginCost 45 = .ok (.istore 4, 2) := by decide +kernel
theorem dX0_beginCost_47 : decode cX0_beginCost 47 = .ok (.iload 4, 2) := by decide +kernel
theorem dX0_beginCost_49 : decode cX0_beginCost 49 = .ok (.iload_n 3, 1) := by decide +kernel
theorem dX0_beginCost_50 : decode cX0_beginCost 50 = .ok (.ifCond .eq 14, 3) := by decide +kernel
theorem dX0_beginCost_53 : decode cX0_beginCost 53 = .ok (.aload_n 0, 1) := by decide +kernel
theorem dX0_beginCost_54 : decode cX0_beginCost 54 = .ok (.getfield 11, 3) := by decide +kernel
theorem dX0_beginCost_57 : decode cX0_beginCost 57 = .ok (.iconst 5, 1) := by decide +kernel
theorem dX0_beginCost_58 : decode cX0_beginCost 58 = .ok (.invokestatic 61, 3) := by decide +kernel
theorem dX0_beginCost_61 : decode cX0_beginCost 61 = .ok (.goto 4, 3) := by decide +kernel
theorem dX0_beginCost_64 : decode cX0_beginCost 64 = .ok (.iconst 0, 1) := by decide +kernel
theorem dX0_beginCost_65 : decode cX0_beginCost 65 = .ok (.iadd, 1) := by decide +kernel
theorem dX0_beginCost_66 : decode cX0_beginCost 66 = .ok (.istore 4, 2) := by decide +kernel
theorem dX0_beginCost_68 : decode cX0_beginCost 68 = .ok (.iload 4, 2) := by decide +kernel
theorem dX0_beginCost_70 : decode cX0_beginCost 70 = .ok (.ireturn, 1) := by decide +kernel
theorem okX0_beginCost : okY yX0_beginCost 3 := ⟨by decide +kernel, by decide +kernel, by decide +kernel⟩
def wpX0_beginCost_b65 (costs : Nat → Int32) (a1 : Int32) (a2 : Int32) (a3 : Int32) (Post : Int32 → Prop)  (s0 : Int32) (s1 : Int32) : Prop := Post (s0 + s1)
def wpX0_beginCost_b44 (costs : Nat → Int32) (a1 : Int32) (a2 : Int32) (a3 : Int32) (Post : Int32 → Prop)  (s0 : Int32) (s1 : Int32) : Prop := (a3 = 0 → wpX0_beginCost_b65 costs a1 a2 a3 Post  (s0 + s1) (0 : Int32)) ∧ (¬ a3 = 0 → wpX6_get 6 costs (5 : Int32) (fun r_3 => wpX0_beginCost_b65 costs a1 a2 a3 Post  (s0 + s1) r_3))
def wpX0_beginCost_b20 (costs : Nat → Int32) (a1 : Int32) (a2 : Int32) (a3 : Int32) (Post : Int32 → Prop)  (s0 : Int32) : Prop := wpX2_isOrphan a1 a2 (fun r_2 => (r_2 = 0 → wpX0_beginCost_b44 costs a1 a2 a3 Post  s0 (0 : Int32)) ∧ (¬ r_2 = 0 → wpX6_get 6 costs (4 : Int32) (fun r_4 => wpX0_beginCost_b44 costs a1 a2 a3 Post  s0 r_4)))
def wpX0_beginCost (costs : Nat → Int32) (a1 : Int32) (a2 : Int32) (a3 : Int32) (Post : Int32 → Prop) : Prop := wpX2_isWidow a1 a2 (fun r_1 => (r_1 = 0 → wpX0_beginCost_b20 costs a1 a2 a3 Post  (0 : Int32)) ∧ (¬ r_1 = 0 → wpX6_get 6 costs (3 : Int32) (fun r_5 => wpX0_beginCost_b20 costs a1 a2 a3 Post  r_5)))
set_option maxHeartbeats 4000000 in
set_option maxRecDepth 100000 in
theorem conX0_beginCost (l : Launch) (D : va_G) (cA : Nat → ClassId) (h_t h_t_costs : Nat) (u_t_rows : Value) (width : Int32) (height : Int32) (slack : Int32) (limit : Int32) (paragraphs : Int32) (costs : Nat → Int32) (a1 : Int32) (a2 : Int32) (a3 : Int32) (Post : Int32 → Prop) (H : wpX0_beginCost costs a1 a2 a3 Post) : Con l D cA yX0_beginCost (wm yX0_beginCost cX0_beginCost 5 (some .int)) { frames := 1, cells := 0, slots := 0, locals := 21 } [(h_t, .inr (0, [.int width, .int height, .int slack, .int limit, .int paragraphs, .ref h_t_costs, u_t_rows])), (h_t_costs, .inl (cA 0, 6, .inl costs))] [.ref h_t, .int a1, .int a2, .int a3] 0 0 (PI (fun r w1 => w1 = [(h_t, .inr (0, [.int width, .int height, .int slack, .int limit, .int paragraphs, .ref h_t_costs, u_t_rows])), (h_t_costs, .inl (cA 0, 6, .inl costs))] ∧ Post r)) := by
  refine Con.of (by decide) (Nat.le_of_ble_eq_true rfl) ?_
  intro p e s m args below meth c C hr hini
  have B65 : ∀  (s0 : Int32) (s1 : Int32), wpX0_beginCost_b65 costs a1 a2 a3 Post  s0 s1 → Kf p l e { frames := 1, cells := 0, slots := 0, locals := 21 } s m args below meth c D (va_A [(h_t, .inr (0, [.int width, .int height, .int slack, .int limit, .int paragraphs, .ref h_t_costs, u_t_rows])), (h_t_costs, .inl (cA 0, 6, .inl costs))] s.heap.size) 5 0 0 (MQ below (QC D [(h_t, .inr (0, [.int width, .int height, .int slack, .int limit, .int paragraphs, .ref h_t_costs, u_t_rows])), (h_t_costs, .inl (cA 0, 6, .inl costs))] s.heap.size (PI (fun r w1 => w1 = [(h_t, .inr (0, [.int width, .int height, .int slack, .int limit, .int paragraphs, .ref h_t_costs, u_t_rows])), (h_t_costs, .inl (cA 0, 6, .inl costs))] ∧ Post r))) args s 0 0 (va_A [(h_t, .inr (0, [.int width, .int height, .int slack, .int limit, .int paragraphs, .ref h_t_costs, u_t_rows])), (h_t_costs, .inl (cA 0, 6, .inl costs))] s.heap.size)) [(h_t, .inr (0, [.int width, .int height, .int slack, .int limit, .int paragraphs, .ref h_t_costs, u_t_rows])), (h_t_costs, .inl (cA 0, 6, .inl costs))] 65 [] [.int s1, .int s0] := by
    intro  s0 s1 H
    refine k_iadd C (pc := 65) dX0_beginCost_65 ?_
    refine k_istore C (pc := 66) dX0_beginCost_66 (Nat.lt_of_lt_of_le (Nat.lt_succ_self _) (Nat.le_of_ble_eq_true rfl)) (lv' := [(4, .int (s0 + s1))]) rfl ?_
    refine k_iload C 0 (pc := 68) dX0_beginCost_68 rfl ?_
    exact k_iret C (pc := 70) hr dX0_beginCost_70 ⟨rfl, H⟩
  have B44 : ∀  (s0 : Int32) (s1 : Int32), wpX0_beginCost_b44 costs a1 a2 a3 Post  s0 s1 → Kf p l e { frames := 1, cells := 0, slots := 0, locals := 21 } s m args below meth c D (va_A [(h_t, .inr (0, [.int width, .int height, .int slack, .int limit, .int paragraphs, .ref h_t_costs, u_t_rows])), (h_t_costs, .inl (cA 0, 6, .inl costs))] s.heap.size) 5 0 0 (MQ below (QC D [(h_t, .inr (0, [.int width, .int height, .int slack, .int limit, .int paragraphs, .ref h_t_costs, u_t_rows])), (h_t_costs, .inl (cA 0, 6, .inl costs))] s.heap.size (PI (fun r w1 => w1 = [(h_t, .inr (0, [.int width, .int height, .int slack, .int limit, .int paragraphs, .ref h_t_costs, u_t_rows])), (h_t_costs, .inl (cA 0, 6, .inl costs))] ∧ Post r))) args s 0 0 (va_A [(h_t, .inr (0, [.int width, .int height, .int slack, .int limit, .int paragraphs, .ref h_t_costs, u_t_rows])), (h_t_costs, .inl (cA 0, 6, .inl costs))] s.heap.size)) [(h_t, .inr (0, [.int width, .int height, .int slack, .int limit, .int paragraphs, .ref h_t_costs, u_t_rows])), (h_t_costs, .inl (cA 0, 6, .inl costs))] 44 [(0, .ref h_t), (3, .int a3)] [.int s1, .int s0] := by
    intro  s0 s1 H
    refine k_iadd C (pc := 44) dX0_beginCost_44 ?_
    refine k_istore C (pc := 45) dX0_beginCost_45 (Nat.lt_of_lt_of_le (Nat.lt_succ_self _) (Nat.le_of_ble_eq_true rfl)) (lv' := [(4, .int (s0 + s1)), (0, .ref h_t), (3, .int a3)]) rfl ?_
    refine k_iload C 0 (pc := 47) dX0_beginCost_47 rfl ?_
    refine k_iload_n C 2 (pc := 49) dX0_beginCost_49 rfl rfl ?_
    refine k_if_eq C (pc := 50) (tgt := 64) dX0_beginCost_50 (by decide) (fun c_50 => ?_) (fun c_50 => ?_)
    · have H := H.1 c_50
      refine k_iconst C (pc := 64) (v := (0 : Int32)) dX0_beginCost_64 rfl ?_
      refine k_lv (pc := 65) [] (lv' := []) rfl ?_
      exact B65  (s0 + s1) (0 : Int32) H
    · have H := H.2 c_50
      refine k_aload_n C 1 (pc := 53) dX0_beginCost_53 rfl rfl ?_
      refine k_get C (pc := 54) inW_X0 0 5 rfl rfl (Nat.lt_of_lt_of_le (Nat.lt_succ_self _) (Nat.le_of_ble_eq_true rfl)) (ref := "WidowWatch$Book") tW_1_69 rfl rfl dX0_beginCost_54 ?_
      refine k_iconst C (pc := 57) (v := (5 : Int32)) dX0_beginCost_57 rfl ?_
      refine k_calli C (pc := 58) [1] [0] (wc := [(h_t_costs, .inl (cA 0, 6, .inl costs))]) (wr := [(h_t, .inr (0, [.int width, .int height, .int slack, .int limit, .int paragraphs, .ref h_t_costs, u_t_rows]))]) rfl rfl rfl rfl (by decide) (k_runSN C (As := [.ref h_t_costs, .int (5 : Int32)]) (rest := [.int (s0 + s1)]) (conX6_get l D cA h_t_costs 6 costs (5 : Int32)  _ H) ⟨k_cwN C tW_2_46 (k_n6 C) tW_1_1 okX6_get rfl rfl ⟨Nat.le_of_ble_eq_true rfl, Nat.le_of_ble_eq_true rfl⟩, C.w tW_2_45, trivial⟩ rfl rfl (Nat.le_of_ble_eq_true rfl) dX0_beginCost_58 ⟨Nat.le_of_ble_eq_true rfl, Nat.le_of_ble_eq_true rfl⟩) (fun r_3 w1_ hw_ => ?_)
      obtain ⟨rfl, H⟩ := hw_
      refine k_ws [0, 1] (ws' := [(h_t, .inr (0, [.int width, .int height, .int slack, .int limit, .int paragraphs, .ref h_t_costs, u_t_rows])), (h_t_costs, .inl (cA 0, 6, .inl costs))]) rfl rfl ?_
      refine k_goto C (pc := 61) (tgt := 65) dX0_beginCost_61 (by decide) ?_
      refine k_lv (pc := 65) [] (lv' := []) rfl ?_
      exact B65  (s0 + s1) r_3 H
  have B20 : ∀  (s0 : Int32), wpX0_beginCost_b20 costs a1 a2 a3 Post  s0 → Kf p l e { frames := 1, cells := 0, slots := 0, locals := 21 } s m args below meth c D (va_A [(h_t, .inr (0, [.int width, .int height, .int slack, .int limit, .int paragraphs, .ref h_t_costs, u_t_rows])), (h_t_costs, .inl (cA 0, 6, .inl costs))] s.heap.size) 5 0 0 (MQ below (QC D [(h_t, .inr (0, [.int width, .int height, .int slack, .int limit, .int paragraphs, .ref h_t_costs, u_t_rows])), (h_t_costs, .inl (cA 0, 6, .inl costs))] s.heap.size (PI (fun r w1 => w1 = [(h_t, .inr (0, [.int width, .int height, .int slack, .int limit, .int paragraphs, .ref h_t_costs, u_t_rows])), (h_t_costs, .inl (cA 0, 6, .inl costs))] ∧ Post r))) args s 0 0 (va_A [(h_t, .inr (0, [.int width, .int height, .int slack, .int limit, .int paragraphs, .ref h_t_costs, u_t_rows])), (h_t_costs, .inl (cA 0, 6, .inl costs))] s.heap.size)) [(h_t, .inr (0, [.int width, .int height, .int slack, .int limit, .int paragraphs, .ref h_t_costs, u_t_rows])), (h_t_costs, .inl (cA 0, 6, .inl costs))] 20 [(0, .ref h_t), (1, .int a1), (2, .int a2), (3, .int a3)] [.int s0] := by
    intro  s0 H
    refine k_istore C (pc := 20) dX0_beginCost_20 (Nat.lt_of_lt_of_le (Nat.lt_succ_self _) (Nat.le_of_ble_eq_true rfl)) (lv' := [(4, .int s0), (0, .ref h_t), (1, .int a1), (2, .int a2), (3, .int a3)]) rfl ?_
    refine k_iload C 0 (pc := 22) dX0_beginCost_22 rfl ?_
    refine k_iload_n C 2 (pc := 24) dX0_beginCost_24 rfl rfl ?_
    refine k_iload_n C 3 (pc := 25) dX0_beginCost_25 rfl rfl ?_
    refine k_calli C (pc := 26) [] [0, 1] (wc := []) (wr := [(h_t, .inr (0, [.int width, .int height, .int slack, .int limit, .int paragraphs, .ref h_t_costs, u_t_rows])), (h_t_costs, .inl (cA 0, 6, .inl costs))]) rfl rfl rfl rfl (by decide) (k_runS C (As := [.int a1, .int a2]) (rest := [.int s0]) (conX2_isOrphan l D cA a1 a2  _ H) ⟨k_cwB C tW_4_42 tW_4_40 tW_1_5 okX2_isOrphan rfl rfl ⟨Nat.le_of_ble_eq_true rfl, Nat.le_of_ble_eq_true rfl⟩, C.w tW_4_41⟩ rfl rfl (Nat.le_of_ble_eq_true rfl) dX0_beginCost_26 ⟨Nat.le_of_ble_eq_true rfl, Nat.le_of_ble_eq_true rfl⟩) (fun r_2 w1_ hw_ => ?_)
    obtain ⟨rfl, H⟩ := hw_
    refine k_ws [0, 1] (ws' := [(h_t, .inr (0, [.int width, .int height, .int slack, .int limit, .int paragraphs, .ref h_t_costs, u_t_rows])), (h_t_costs, .inl (cA 0, 6, .inl costs))]) rfl rfl ?_
    refine k_if_eq C (pc := 29) (tgt := 43) dX0_beginCost_29 (by decide) (fun c_29 => ?_) (fun c_29 => ?_)
    · have H := H.1 c_29
      refine k_iconst C (pc := 43) (v := (0 : Int32)) dX0_beginCost_43 rfl ?_
      refine k_lv (pc := 44) [1, 4] (lv' := [(0, .ref h_t), (3, .int a3)]) rfl ?_
      exact B44  s0 (0 : Int32) H
    · have H := H.2 c_29
      refine k_aload_n C 1 (pc := 32) dX0_beginCost_32 rfl rfl ?_
      refine k_get C (pc := 33) inW_X0 0 5 rfl rfl (Nat.lt_of_lt_of_le (Nat.lt_succ_self _) (Nat.le_of_ble_eq_true rfl)) (ref := "WidowWatch$Book") tW_1_69 rfl rfl dX0_beginCost_33 ?_
      refine k_iconst C (pc := 36) (v := (4 : Int32)) dX0_beginCost_36 rfl ?_
      refine k_calli C (pc := 37) [1] [0] (wc := [(h_t_costs, .inl (cA 0, 6, .inl costs))]) (wr := [(h_t, .inr (0, [.int width, .int height, .int slack, .int limit, .int paragraphs, .ref h_t_costs, u_t_rows]))]) rfl rfl rfl rfl (by decide) (k_runSN C (As := [.ref h_t_costs, .int (4 : Int32)]) (rest := [.int s0]) (conX6_get l D cA h_t_costs 6 costs (4 : Int32)  _ H) ⟨k_cwN C tW_2_46 (k_n6 C) tW_1_1 okX6_get rfl rfl ⟨Nat.le_of_ble_eq_true rfl, Nat.le_of_ble_eq_true rfl⟩, C.w tW_2_45, trivial⟩ rfl rfl (Nat.le_of_ble_eq_true rfl) dX0_beginCost_37 ⟨Nat.le_of_ble_eq_true rfl, Nat.le_of_ble_eq_true rfl⟩) (fun r_4 w1_ hw_ => ?_)
      obtain ⟨rfl, H⟩ := hw_
      refine k_ws [0, 1] (ws' := [(h_t, .inr (0, [.int width, .int height, .int slack, .int limit, .int paragraphs, .ref h_t_costs, u_t_rows])), (h_t_costs, .inl (cA 0, 6, .inl costs))]) rfl rfl ?_
      refine k_goto C (pc := 40) (tgt := 44) dX0_beginCost_40 (by decide) ?_
      refine k_lv (pc := 44) [1, 4] (lv' := [(0, .ref h_t), (3, .int a3)]) rfl ?_
      exact B44  s0 r_4 H
  refine k_eq (ws' := [(h_t, .inr (0, [.int width, .int height, .int slack, .int limit, .int paragraphs, .ref h_t_costs, u_t_rows])), (h_t_costs, .inl (cA 0, 6, .inl costs))]) (lv' := [(0, .ref h_t), (1, .int a1), (2, .int a2), (3, .int a3)]) (st' := []) rfl rfl rfl ?_
  refine k_iload_n C 1 (pc := 0) dX0_beginCost_0 rfl rfl ?_
  refine k_iload_n C 2 (pc := 1) dX0_beginCost_1 rfl rfl ?_
  refine k_calli C (pc := 2) [] [0, 1] (wc := []) (wr := [(h_t, .inr (0, [.int width, .int height, .int slack, .int limit, .int paragraphs, .ref h_t_costs, u_t_rows])), (h_t_costs, .inl (cA 0, 6, .inl costs))]) rfl rfl rfl rfl (by decide) (k_runS C (As := [.int a1, .int a2]) (rest := []) (conX2_isWidow l D cA a1 a2  _ H) ⟨k_cwB C tW_4_39 tW_4_37 tW_1_5 okX2_isWidow rfl rfl ⟨Nat.le_of_ble_eq_true rfl, Nat.le_of_ble_eq_true rfl⟩, C.w tW_4_38⟩ rfl rfl (Nat.le_of_ble_eq_true rfl) dX0_beginCost_2 ⟨Nat.le_of_ble_eq_true rfl, Nat.le_of_ble_eq_true rfl⟩) (fun r_1 w1_ hw_ => ?_)
  obtain ⟨rfl, H⟩ := hw_
  refine k_ws [0, 1] (ws' := [(h_t, .inr (0, [.int width, .int height, .int slack, .int limit, .int paragraphs, .ref h_t_costs, u_t_rows])), (h_t_costs, .inl (cA 0, 6, .inl costs))]) rfl rfl ?_
  refine k_if_eq C (pc := 5) (tgt := 19) dX0_beginCost_5 (by decide) (fun c_5 => ?_) (fun c_5 => ?_)
  · have H := H.1 c_5
    refine k_iconst C (pc := 19) (v := (0 : Int32)) dX0_beginCost_19 rfl ?_
    refine k_lv (pc := 20) [0, 1, 2, 3] (lv' := [(0, .ref h_t), (1, .int a1), (2, .int a2), (3, .int a3)]) rfl ?_
    exact B20  (0 : Int32) H
  · have H := H.2 c_5
    refine k_aload_n C 0 (pc := 8) dX0_beginCost_8 rfl rfl ?_
    refine k_get C (pc := 9) inW_X0 0 5 rfl rfl (Nat.lt_of_lt_of_le (Nat.lt_succ_self _) (Nat.le_of_ble_eq_true rfl)) (ref := "WidowWatch$Book") tW_1_69 rfl rfl dX0_beginCost_9 ?_
    refine k_iconst C (pc := 12) (v := (3 : Int32)) dX0_beginCost_12 rfl ?_
    refine k_calli C (pc := 13) [1] [0] (wc := [(h_t_costs, .inl (cA 0, 6, .inl costs))]) (wr := [(h_t, .inr (0, [.int width, .int height, .int slack, .int limit, .int paragraphs, .ref h_t_costs, u_t_rows]))]) rfl rfl rfl rfl (by decide) (k_runSN C (As := [.ref h_t_costs, .int (3 : Int32)]) (rest := []) (conX6_get l D cA h_t_costs 6 costs (3 : Int32)  _ H) ⟨k_cwN C tW_2_46 (k_n6 C) tW_1_1 okX6_get rfl rfl ⟨Nat.le_of_ble_eq_true rfl, Nat.le_of_ble_eq_true rfl⟩, C.w tW_2_45, trivial⟩ rfl rfl (Nat.le_of_ble_eq_true rfl) dX0_beginCost_13 ⟨Nat.le_of_ble_eq_true rfl, Nat.le_of_ble_eq_true rfl⟩) (fun r_5 w1_ hw_ => ?_)
    obtain ⟨rfl, H⟩ := hw_
    refine k_ws [0, 1] (ws' := [(h_t, .inr (0, [.int width, .int height, .int slack, .int limit, .int paragraphs, .ref h_t_costs, u_t_rows])), (h_t_costs, .inl (cA 0, 6, .inl costs))]) rfl rfl ?_
    refine k_goto C (pc := 16) (tgt := 20) dX0_beginCost_16 (by decide) ?_
    refine k_lv (pc := 20) [0, 1, 2, 3] (lv' := [(0, .ref h_t), (1, .int a1), (2, .int a2), (3, .int a3)]) rfl ?_
    exact B20  r_5 H
/-! WidowWatch$Book.settingCost(II)I -/
theorem dX0_settingCost_0 : decode cX0_settingCost 0 = .ok (.iload_n 1, 1) := by decide +kernel
theorem dX0_settingCost_1 : decode cX0_settingCost 1 = .ok (.ifCond .ne 7, 3) := by decide +kernel
theorem dX0_settingCost_4 : decode cX0_settingCost 4 = .ok (.iconst 0, 1) := by decide +kernel
theorem dX0_settingCost_5 : decode cX0_settingCost 5 = .ok (.goto 12, 3) := by decide +kernel
theorem dX0_settingCost_8 : decode cX0_settingCost 8 = .ok (.iload_n 2, 1) := by decide +kernel
theorem dX0_settingCost_9 : decode cX0_settingCost 9 = .ok (.aload_n 0, 1) := by decide +kernel
theorem dX0_settingCost_10 : decode cX0_settingCost 10 = .ok (.iload_n 1, 1) := by decide +kernel
theorem dX0_settingCost_11 : decode cX0_settingCost 11 = .ok (.iconst 1, 1) := by decide +kernel
theorem dX0_settingCost_12 : decode cX0_settingCost 12 = .ok (.isub, 1) := by decide +kernel
theorem dX0_settingCost_13 : decode cX0_settingCost 13 = .ok (.invokevirtual 51, 3) := by decide +kernel
theorem dX0_settingCost_16 : decode cX0_settingCost 16 = .ok (.imul, 1) := by decide +kernel
theorem dX0_settingCost_17 : decode cX0_settingCost 17 = .ok (.ireturn, 1) := by decide +kernel
theorem okX0_settingCost : okY yX0_settingCost 2 := ⟨by decide +kernel, by decide +kernel, by decide +kernel⟩
def wpX0_settingCost (costs : Nat → Int32) (a1 : Int32) (a2 : Int32) (Post : Int32 → Prop) : Prop := (¬ a1 = 0 → wpX0_costOf costs (a1 - (1 : Int32)) (fun r_1 => Post (a2 * r_1))) ∧ (a1 = 0 → Post (0 : Int32))
set_option maxHeartbeats 4000000 in
set_option maxRecDepth 100000 in
theorem conX0_settingCost (l : Launch) (D : va_G) (cA : Nat → ClassId) (h_t h_t_costs : Nat) (u_t_rows : Value) (width : Int32) (height : Int32) (slack : Int32) (limit : Int32) (paragraphs : Int32) (costs : Nat → Int32) (a1 : Int32) (a2 : Int32) (Post : Int32 → Prop) (H : wpX0_settingCost costs a1 a2 Post) : Con l D cA yX0_settingCost (wm yX0_settingCost cX0_settingCost 3 (some .int)) { frames := 2, cells := 0, slots := 0, locals := 42 } [(h_t, .inr (0, [.int width, .int height, .int slack, .int limit, .int paragraphs, .ref h_t_costs, u_t_rows])), (h_t_costs, .inl (cA 0, 6, .inl costs))] [.ref h_t, .int a1, .int a2] 0 0 (PI (fun r w1 => w1 = [(h_t, .inr (0, [.int width, .int height, .int slack, .int limit, .int paragraphs, .ref h_t_costs, u_t_rows])), (h_t_costs, .inl (cA 0, 6, .inl costs))] ∧ Post r)) := by
  refine Con.of (by decide) (Nat.le_of_ble_eq_true rfl) ?_
  intro p e s m args below meth c C hr hini
  refine k_eq (ws' := [(h_t, .inr (0, [.int width, .int height, .int slack, .int limit, .int paragraphs, .ref h_t_costs, u_t_rows])), (h_t_costs, .inl (cA 0, 6, .inl costs))]) (lv' := [(0, .ref h_t), (1, .int a1), (2, .int a2)]) (st' := []) rfl rfl rfl ?_
  refine k_iload_n C 1 (pc := 0) dX0_settingCost_0 rfl rfl ?_
  refine k_if_ne C (pc := 1) (tgt := 8) dX0_settingCost_1 (by decide) (fun c_1 => ?_) (fun c_1 => ?_)
  · have H := H.1 c_1
    refine k_iload_n C 2 (pc := 8) dX0_settingCost_8 rfl rfl ?_
    refine k_aload_n C 0 (pc := 9) dX0_settingCost_9 rfl rfl ?_
    refine k_iload_n C 1 (pc := 10) dX0_settingCost_10 rfl rfl ?_
    refine k_iconst C (pc := 11) (v := (1 : Int32)) dX0_settingCost_11 rfl ?_
    refine k_isub C (pc := 12) dX0_settingCost_12 ?_
    refine k_calli C (pc := 13) [0, 1] [] (wc := [(h_t, .inr (0, [.int width, .int height, .int slack, .int limit, .int paragraphs, .ref h_t_costs, u_t_rows])), (h_t_costs, .inl (cA 0, 6, .inl costs))]) (wr := []) rfl rfl rfl rfl (by decide) (k_runV C (As := [.int (a1 - (1 : Int32))]) (rest := [.int a2]) (ci := 0) (q0 := 0) (conX0_costOf l D cA h_t h_t_costs u_t_rows width height slack limit paragraphs costs (a1 - (1 : Int32))  _ H) ⟨k_cwB C tW_4_19 tW_4_16 tW_1_2 okX0_costOf rfl rfl ⟨Nat.le_of_ble_eq_true rfl, Nat.le_of_ble_eq_true rfl⟩, C.w tW_4_17, C.w tW_4_18⟩ rfl rfl rfl rfl rfl (Nat.le_of_ble_eq_true rfl) dX0_settingCost_13 ⟨Nat.le_of_ble_eq_true rfl, Nat.le_of_ble_eq_true rfl⟩) (fun r_1 w1_ hw_ => ?_)
    obtain ⟨rfl, H⟩ := hw_
    refine k_ws [0, 1] (ws' := [(h_t, .inr (0, [.int width, .int height, .int slack, .int limit, .int paragraphs, .ref h_t_costs, u_t_rows])), (h_t_costs, .inl (cA 0, 6, .inl costs))]) rfl rfl ?_
    refine k_imul C (pc := 16) dX0_settingCost_16 ?_
    exact k_iret C (pc := 17) hr dX0_settingCost_17 ⟨rfl, H⟩
  · have H := H.2 c_1
    refine k_iconst C (pc := 4) (v := (0 : Int32)) dX0_settingCost_4 rfl ?_
    refine k_goto C (pc := 5) (tgt := 17) dX0_settingCost_5 (by decide) ?_
    exact k_iret C (pc := 17) hr dX0_settingCost_17 ⟨rfl, H⟩
