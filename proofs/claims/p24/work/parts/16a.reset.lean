def uC : Nat → Int32 := fun j => usual.getD j 0
section KU
variable {p : Program} {l : Launch} {e : Env} {R : Room} {s : State} {m : MethodId} {args : Array Value} {below : List Frame} {meth : Method} {c : Code} {D : va_G} {A : Nat → Prop} {nL cells slots : Nat} {Q : State → Prop} {ws : va_W} {pc : Nat} {lv : List (Nat × Value)} {st : List Value}
variable {cc : ByteArray} {Ts : List Cond} {cA : Nat → ClassId}
theorem k_getU (C : Cx p s m meth c cc nL args Ts "WidowWatch$Book" D cA A) (hdg : decode cc pc = .ok (.getstatic 37, 3)) (kk : Kf p l e R s m args below meth c D A nL cells slots Q ws (pc + 3) lv (.ref (cA 300) :: st)) : Kf p l e R s m args below meth c D A nL cells slots Q ws pc lv st :=
  fun H locs ls hP hD hS hl => va_getsN C.1.1 C.1.2.1 C.2.1.2.2.2.2.2.2.2.1 hS C.1.2.2.2.1 (va_Nw.use rfl C.2.1.2.2.2.1) (fun _ h => h) hdg (kk H locs ls hP hD hS hl)
end KU
set_option maxHeartbeats 4000000 in
set_option maxRecDepth 100000 in
theorem conX6_copyRow_U (l : Launch) (D : va_G) (cA : Nat → ClassId) (h_p2 : Nat) (n_q2 : Nat) (q2 : Nat → Int32) (Post : (Nat → Int32) → Prop) (H : wpX6_copyRow 6 uC n_q2 q2 Post) : Con l D cA yX6_copyRow (wm yX6_copyRow cX6_copyRow 3 none) { frames := 0, cells := 0, slots := 0, locals := 0 } [(h_p2, .inl (cA 0, n_q2, .inl q2))] [.ref (cA 300), .ref h_p2] 0 0 (PV (fun w1 => ∃ (q2' : Nat → Int32), w1 = [(h_p2, .inl (cA 0, n_q2, .inl (q2')))] ∧ Post q2')) := by
  refine Con.of (by decide) (Nat.le_of_ble_eq_true rfl) ?_
  intro p e s m args below meth c C hr hini
  have B2 : ∀  (n : Nat) (q2_v : Nat → Int32) (x2 : Int32), wpX6_copyRow_L2 6 uC n_q2 Post  n q2_v x2 → Kf p l e { frames := 0, cells := 0, slots := 0, locals := 0 } s m args below meth c D (va_A [(h_p2, .inl (cA 0, n_q2, .inl q2))] s.heap.size) 3 0 0 (MQ below (QC D [(h_p2, .inl (cA 0, n_q2, .inl q2))] s.heap.size (PV (fun w1 => ∃ (q2' : Nat → Int32), w1 = [(h_p2, .inl (cA 0, n_q2, .inl (q2')))] ∧ Post q2'))) args s 0 0 (va_A [(h_p2, .inl (cA 0, n_q2, .inl q2))] s.heap.size)) [(h_p2, .inl (cA 0, n_q2, .inl q2_v))] 2 [(0, .ref (cA 300)), (1, .ref h_p2), (2, .int x2)] [] := by
    intro  n
    induction n with
    | zero =>
      intro q2_v x2 H
      exact H.elim
    | succ n2 ih2 =>
      intro q2_v x2 H
      refine k_iload_n C 2 (pc := 2) dX6_copyRow_2 rfl rfl ?_
      refine k_aload_n C 0 (pc := 3) dX6_copyRow_3 rfl rfl ?_
      refine k_tlen C (pc := 4) (v := nI 6) C.2.1.2.2.2.2.2.2.2.2 rfl dX6_copyRow_4 ?_
      refine k_icmp_ge C (pc := 5) (tgt := 26) dX6_copyRow_5 (by decide) (fun c_5 => ?_) (fun c_5 => ?_)
      · have H := H.1 c_5
        exact k_vret C (pc := 26) hr dX6_copyRow_26 ⟨_, rfl, H⟩
      · have H := H.2 c_5
        refine k_iload_n C 2 (pc := 8) dX6_copyRow_8 rfl rfl ?_
        refine k_aload_n C 1 (pc := 9) dX6_copyRow_9 rfl rfl ?_
        refine k_alen C (pc := 10) (v := nI n_q2) 0 0 rfl rfl rfl dX6_copyRow_10 ?_
        refine k_icmp_ge C (pc := 11) (tgt := 26) dX6_copyRow_11 (by decide) (fun c_11 => ?_) (fun c_11 => ?_)
        · have H := H.1 c_11
          exact k_vret C (pc := 26) hr dX6_copyRow_26 ⟨_, rfl, H⟩
        · have H := H.2 c_11
          refine k_aload_n C 1 (pc := 14) dX6_copyRow_14 rfl rfl ?_
          refine k_iload_n C 2 (pc := 15) dX6_copyRow_15 rfl rfl ?_
          refine k_aload_n C 0 (pc := 16) dX6_copyRow_16 rfl rfl ?_
          refine k_iload_n C 2 (pc := 17) dX6_copyRow_17 rfl rfl ?_
          obtain ⟨hi_, H⟩ := H
          refine k_ti C (pc := 18) (v := .int (uC x2.toNatClampNeg)) C.2.1.2.2.2.2.2.2.2.2 hi_ rfl dX6_copyRow_18 ?_
          obtain ⟨hi_, H⟩ := H
          refine k_iast C (pc := 19) 0 rfl hi_ (ws' := [(h_p2, .inl (cA 0, n_q2, .inl (upd q2_v x2.toNatClampNeg (uC x2.toNatClampNeg))))]) rfl dX6_copyRow_19 ?_
          refine k_iinc C (pc := 20) (k := 2) (v := x2 + (1 : Int32)) dX6_copyRow_20 rfl rfl (Nat.lt_of_lt_of_le (Nat.lt_succ_self _) (Nat.le_of_ble_eq_true rfl)) (lv' := [(2, .int (x2 + (1 : Int32))), (0, .ref (cA 300)), (1, .ref h_p2)]) rfl ?_
          refine k_goto C (pc := 23) (tgt := 2) dX6_copyRow_23 (by decide) ?_
          refine k_lv (pc := 2) [1, 2, 0] (lv' := [(0, .ref (cA 300)), (1, .ref h_p2), (2, .int (x2 + (1 : Int32)))]) rfl ?_
          exact ih2 (upd q2_v x2.toNatClampNeg (uC x2.toNatClampNeg)) (x2 + (1 : Int32)) H
  refine k_eq (ws' := [(h_p2, .inl (cA 0, n_q2, .inl q2))]) (lv' := [(0, .ref (cA 300)), (1, .ref h_p2)]) (st' := []) rfl rfl rfl ?_
  refine k_iconst C (pc := 0) (v := (0 : Int32)) dX6_copyRow_0 rfl ?_
  refine k_istore_n C (pc := 1) dX6_copyRow_1 rfl (Nat.lt_of_lt_of_le (Nat.lt_succ_self _) (Nat.le_of_ble_eq_true rfl)) (lv' := [(2, .int (0 : Int32)), (0, .ref (cA 300)), (1, .ref h_p2)]) rfl ?_
  obtain ⟨n_, H⟩ := H
  refine k_lv (pc := 2) [1, 2, 0] (lv' := [(0, .ref (cA 300)), (1, .ref h_p2), (2, .int (0 : Int32))]) rfl ?_
  exact B2  n_ q2 (0 : Int32) H
/-! WidowWatch$Book.reset()V -/
theorem dX0_reset_0 : decode cX0_reset 0 = .ok (.aload_n 0, 1) := by decide +kernel
theorem dX0_reset_1 : decode cX0_reset 1 = .ok (.bipush 40, 2) := by decide +kernel
theorem dX0_reset_3 : decode cX0_reset 3 = .ok (.putfield 21, 3) := by decide +kernel
theorem dX0_reset_6 : decode cX0_reset 6 = .ok (.aload_n 0, 1) := by decide +kernel
theorem dX0_reset_7 : decode cX0_reset 7 = .ok (.bipush 10, 2) := by decide +kernel
theorem dX0_reset_9 : decode cX0_reset 9 = .ok (.putfield 25, 3) := by decide +kernel
theorem dX0_reset_12 : decode cX0_reset 12 = .ok (.aload_n 0, 1) := by decide +kernel
theorem dX0_reset_13 : decode cX0_reset 13 = .ok (.iconst 4, 1) := by decide +kernel
theorem dX0_reset_14 : decode cX0_reset 14 = .ok (.putfield 28, 3) := by decide +kernel
theorem dX0_reset_17 : decode cX0_reset 17 = .ok (.aload_n 0, 1) := by decide +kernel
theorem dX0_reset_18 : decode cX0_reset 18 = .ok (.iconst 1, 1) := by decide +kernel
theorem dX0_reset_19 : decode cX0_reset 19 = .ok (.putfield 31, 3) := by decide +kernel
theorem dX0_reset_22 : decode cX0_reset 22 = .ok (.aload_n 0, 1) := by decide +kernel
theorem dX0_reset_23 : decode cX0_reset 23 = .ok (.iconst 0, 1) := by decide +kernel
theorem dX0_reset_24 : decode cX0_reset 24 = .ok (.putfield 34, 3) := by decide +kernel
theorem dX0_reset_27 : decode cX0_reset 27 = .ok (.getstatic 37, 3) := by decide +kernel
theorem dX0_reset_30 : decode cX0_reset 30 = .ok (.aload_n 0, 1) := by decide +kernel
theorem dX0_reset_31 : decode cX0_reset 31 = .ok (.getfield 11, 3) := by decide +kernel
theorem dX0_reset_34 : decode cX0_reset 34 = .ok (.invokestatic 40, 3) := by decide +kernel
theorem dX0_reset_37 : decode cX0_reset 37 = .ok (.return_, 1) := by decide +kernel
theorem okX0_reset : okY yX0_reset 0 := ⟨by decide +kernel, by decide +kernel, by decide +kernel⟩
def wpX0_reset (width : Int32) (height : Int32) (slack : Int32) (limit : Int32) (paragraphs : Int32) (costs : Nat → Int32) (Post : Int32 → Int32 → Int32 → Int32 → Int32 → (Nat → Int32) → Prop) : Prop := wpX6_copyRow 6 uC 6 costs (fun costs_1 => Post (40 : Int32) (10 : Int32) (4 : Int32) (1 : Int32) (0 : Int32) costs_1)
set_option maxHeartbeats 4000000 in
set_option maxRecDepth 100000 in
theorem conX0_reset (l : Launch) (D : va_G) (cA : Nat → ClassId) (h_t h_t_costs : Nat) (u_t_rows : Value) (width : Int32) (height : Int32) (slack : Int32) (limit : Int32) (paragraphs : Int32) (costs : Nat → Int32) (Post : Int32 → Int32 → Int32 → Int32 → Int32 → (Nat → Int32) → Prop) (H : wpX0_reset width height slack limit paragraphs costs Post) : Con l D cA yX0_reset (wm yX0_reset cX0_reset 1 none) { frames := 1, cells := 0, slots := 0, locals := 22 } [(h_t, .inr (0, [.int width, .int height, .int slack, .int limit, .int paragraphs, .ref h_t_costs, u_t_rows])), (h_t_costs, .inl (cA 0, 6, .inl costs))] [.ref h_t] 0 0 (PV (fun w1 => ∃ (width' : Int32) (height' : Int32) (slack' : Int32) (limit' : Int32) (paragraphs' : Int32) (costs' : Nat → Int32), w1 = [(h_t, .inr (0, [.int (width'), .int (height'), .int (slack'), .int (limit'), .int (paragraphs'), .ref h_t_costs, u_t_rows])), (h_t_costs, .inl (cA 0, 6, .inl (costs')))] ∧ Post width' height' slack' limit' paragraphs' costs')) := by
  refine Con.of (by decide) (Nat.le_of_ble_eq_true rfl) ?_
  intro p e s m args below meth c C hr hini
  refine k_eq (ws' := [(h_t, .inr (0, [.int width, .int height, .int slack, .int limit, .int paragraphs, .ref h_t_costs, u_t_rows])), (h_t_costs, .inl (cA 0, 6, .inl costs))]) (lv' := [(0, .ref h_t)]) (st' := []) rfl rfl rfl ?_
  refine k_aload_n C 0 (pc := 0) dX0_reset_0 rfl rfl ?_
  refine k_bipush C (pc := 1) (v := (40 : Int32)) dX0_reset_1 (by decide) ?_
  refine k_put C (pc := 3) inW_X0 tyX0 tyX0_ok nmX0 0 0 rfl rfl (Nat.lt_of_lt_of_le (Nat.lt_succ_self _) (Nat.le_of_ble_eq_true rfl)) (ref := "WidowWatch$Book") tW_1_54 rfl rfl rfl (ty := .int) rfl rfl (Nat.lt_of_lt_of_le (Nat.lt_succ_self _) (Nat.le_of_ble_eq_true rfl)) (fs' := [.int (40 : Int32), .int height, .int slack, .int limit, .int paragraphs, .ref h_t_costs, u_t_rows]) rfl (ws' := [(h_t, .inr (0, [.int (40 : Int32), .int height, .int slack, .int limit, .int paragraphs, .ref h_t_costs, u_t_rows])), (h_t_costs, .inl (cA 0, 6, .inl costs))]) rfl dX0_reset_3 ?_
  refine k_aload_n C 0 (pc := 6) dX0_reset_6 rfl rfl ?_
  refine k_bipush C (pc := 7) (v := (10 : Int32)) dX0_reset_7 (by decide) ?_
  refine k_put C (pc := 9) inW_X0 tyX0 tyX0_ok nmX0 0 1 rfl rfl (Nat.lt_of_lt_of_le (Nat.lt_succ_self _) (Nat.le_of_ble_eq_true rfl)) (ref := "WidowWatch$Book") tW_1_57 rfl rfl rfl (ty := .int) rfl rfl (Nat.lt_of_lt_of_le (Nat.lt_succ_self _) (Nat.le_of_ble_eq_true rfl)) (fs' := [.int (40 : Int32), .int (10 : Int32), .int slack, .int limit, .int paragraphs, .ref h_t_costs, u_t_rows]) rfl (ws' := [(h_t, .inr (0, [.int (40 : Int32), .int (10 : Int32), .int slack, .int limit, .int paragraphs, .ref h_t_costs, u_t_rows])), (h_t_costs, .inl (cA 0, 6, .inl costs))]) rfl dX0_reset_9 ?_
  refine k_aload_n C 0 (pc := 12) dX0_reset_12 rfl rfl ?_
  refine k_iconst C (pc := 13) (v := (4 : Int32)) dX0_reset_13 rfl ?_
  refine k_put C (pc := 14) inW_X0 tyX0 tyX0_ok nmX0 0 2 rfl rfl (Nat.lt_of_lt_of_le (Nat.lt_succ_self _) (Nat.le_of_ble_eq_true rfl)) (ref := "WidowWatch$Book") tW_1_60 rfl rfl rfl (ty := .int) rfl rfl (Nat.lt_of_lt_of_le (Nat.lt_succ_self _) (Nat.le_of_ble_eq_true rfl)) (fs' := [.int (40 : Int32), .int (10 : Int32), .int (4 : Int32), .int limit, .int paragraphs, .ref h_t_costs, u_t_rows]) rfl (ws' := [(h_t, .inr (0, [.int (40 : Int32), .int (10 : Int32), .int (4 : Int32), .int limit, .int paragraphs, .ref h_t_costs, u_t_rows])), (h_t_costs, .inl (cA 0, 6, .inl costs))]) rfl dX0_reset_14 ?_
  refine k_aload_n C 0 (pc := 17) dX0_reset_17 rfl rfl ?_
  refine k_iconst C (pc := 18) (v := (1 : Int32)) dX0_reset_18 rfl ?_
  refine k_put C (pc := 19) inW_X0 tyX0 tyX0_ok nmX0 0 3 rfl rfl (Nat.lt_of_lt_of_le (Nat.lt_succ_self _) (Nat.le_of_ble_eq_true rfl)) (ref := "WidowWatch$Book") tW_1_62 rfl rfl rfl (ty := .int) rfl rfl (Nat.lt_of_lt_of_le (Nat.lt_succ_self _) (Nat.le_of_ble_eq_true rfl)) (fs' := [.int (40 : Int32), .int (10 : Int32), .int (4 : Int32), .int (1 : Int32), .int paragraphs, .ref h_t_costs, u_t_rows]) rfl (ws' := [(h_t, .inr (0, [.int (40 : Int32), .int (10 : Int32), .int (4 : Int32), .int (1 : Int32), .int paragraphs, .ref h_t_costs, u_t_rows])), (h_t_costs, .inl (cA 0, 6, .inl costs))]) rfl dX0_reset_19 ?_
  refine k_aload_n C 0 (pc := 22) dX0_reset_22 rfl rfl ?_
  refine k_iconst C (pc := 23) (v := (0 : Int32)) dX0_reset_23 rfl ?_
  refine k_put C (pc := 24) inW_X0 tyX0 tyX0_ok nmX0 0 4 rfl rfl (Nat.lt_of_lt_of_le (Nat.lt_succ_self _) (Nat.le_of_ble_eq_true rfl)) (ref := "WidowWatch$Book") tW_1_65 rfl rfl rfl (ty := .int) rfl rfl (Nat.lt_of_lt_of_le (Nat.lt_succ_self _) (Nat.le_of_ble_eq_true rfl)) (fs' := [.int (40 : Int32), .int (10 : Int32), .int (4 : Int32), .int (1 : Int32), .int (0 : Int32), .ref h_t_costs, u_t_rows]) rfl (ws' := [(h_t, .inr (0, [.int (40 : Int32), .int (10 : Int32), .int (4 : Int32), .int (1 : Int32), .int (0 : Int32), .ref h_t_costs, u_t_rows])), (h_t_costs, .inl (cA 0, 6, .inl costs))]) rfl dX0_reset_24 ?_
  refine k_getU C (pc := 27) dX0_reset_27 ?_
  refine k_aload_n C 0 (pc := 30) dX0_reset_30 rfl rfl ?_
  refine k_get C (pc := 31) inW_X0 0 5 rfl rfl (Nat.lt_of_lt_of_le (Nat.lt_succ_self _) (Nat.le_of_ble_eq_true rfl)) (ref := "WidowWatch$Book") tW_1_69 rfl rfl dX0_reset_31 ?_
  refine k_callPv C (pc := 34) [1] (wc := [(h_t_costs, .inl (cA 0, 6, .inl costs))]) rfl rfl (k_runSN C (As := [.ref (cA 300), .ref h_t_costs]) (rest := []) (conX6_copyRow_U l D cA h_t_costs 6 costs _ H) ⟨k_cwN C tW_1_53 (k_n0 C) tW_1_1 okX6_copyRow rfl rfl ⟨Nat.le_of_ble_eq_true rfl, Nat.le_of_ble_eq_true rfl⟩, C.w tW_1_52, trivial⟩ rfl rfl (Nat.le_of_ble_eq_true rfl) dX0_reset_34 ⟨Nat.le_of_ble_eq_true rfl, Nat.le_of_ble_eq_true rfl⟩) (fun _ h_ => by obtain ⟨_, rfl, _⟩ := h_; rfl) (fun w1_ hw_ => ?_)
  obtain ⟨costs_1, rfl, H⟩ := hw_
  refine k_eq (pc := 37) (ws' := [(h_t, .inr (0, [.int (40 : Int32), .int (10 : Int32), .int (4 : Int32), .int (1 : Int32), .int (0 : Int32), .ref h_t_costs, u_t_rows])), (h_t_costs, .inl (cA 0, 6, .inl costs_1))]) rfl rfl rfl ?_
  exact k_vret C (pc := 37) hr dX0_reset_37 ⟨_, _, _, _, _, _, rfl, H⟩
