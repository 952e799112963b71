/-! WidowWatch$Reader.isDigit(I)Z -/
theorem dX5_isDigit_0 : decode cX5_isDigit 0 = .ok (.iload_n 0, 1) := by decide +kernel
theorem dX5_isDigit_1 : decode cX5_isDigit 1 = .ok (.bipush 48, 2) := by decide +kernel
theorem dX5_isDigit_3 : decode cX5_isDigit 3 = .ok (.if_icmp .lt 13, 3) := by decide +kernel
theorem dX5_isDigit_6 : decode cX5_isDigit 6 = .ok (.iload_n 0, 1) := by decide +kernel
theorem dX5_isDigit_7 : decode cX5_isDigit 7 = .ok (.bipush 57, 2) := by decide +kernel
theorem dX5_isDigit_9 : decode cX5_isDigit 9 = .ok (.if_icmp .gt 7, 3) := by decide +kernel
theorem dX5_isDigit_12 : decode cX5_isDigit 12 = .ok (.iconst 1, 1) := by decide +kernel
theorem dX5_isDigit_13 : decode cX5_isDigit 13 = .ok (.goto 4, 3) := by decide +kernel
theorem dX5_isDigit_16 : decode cX5_isDigit 16 = .ok (.iconst 0, 1) := by decide +kernel
theorem dX5_isDigit_17 : decode cX5_isDigit 17 = .ok (.ireturn, 1) := by decide +kernel
theorem okX5_isDigit : okY yX5_isDigit 1 := ⟨by decide +kernel, by decide +kernel, by decide +kernel⟩
def wpX5_isDigit (a1 : Int32) (Post : Int32 → Prop) : Prop := (a1 < (48 : Int32) → Post (0 : Int32)) ∧ (¬ a1 < (48 : Int32) → ((57 : Int32) < a1 → Post (0 : Int32)) ∧ (¬ (57 : Int32) < a1 → Post (1 : Int32)))
set_option maxHeartbeats 4000000 in
set_option maxRecDepth 100000 in
theorem conX5_isDigit (l : Launch) (D : va_G) (cA : Nat → ClassId) (a1 : Int32) (Post : Int32 → Prop) (H : wpX5_isDigit a1 Post) : Con l D cA yX5_isDigit (wm yX5_isDigit cX5_isDigit 1 (some .boolean)) { frames := 0, cells := 0, slots := 0, locals := 0 } [] [.int a1] 0 0 (PI (fun r w1 => w1 = [] ∧ Post r)) := by
  refine Con.of (by decide) (Nat.le_of_ble_eq_true rfl) ?_
  intro p e s m args below meth c C hr hini
  refine k_eq (ws' := []) (lv' := [(0, .int a1)]) (st' := []) rfl rfl rfl ?_
  refine k_iload_n C 0 (pc := 0) dX5_isDigit_0 rfl rfl ?_
  refine k_bipush C (pc := 1) (v := (48 : Int32)) dX5_isDigit_1 (by decide) ?_
  refine k_icmp_lt C (pc := 3) (tgt := 16) dX5_isDigit_3 (by decide) (fun c_3 => ?_) (fun c_3 => ?_)
  · have H := H.1 c_3
    refine k_iconst C (pc := 16) (v := (0 : Int32)) dX5_isDigit_16 rfl ?_
    exact k_zret C (pc := 17) hr rfl dX5_isDigit_17 ⟨rfl, H⟩
  · have H := H.2 c_3
    refine k_iload_n C 0 (pc := 6) dX5_isDigit_6 rfl rfl ?_
    refine k_bipush C (pc := 7) (v := (57 : Int32)) dX5_isDigit_7 (by decide) ?_
    refine k_icmp_gt C (pc := 9) (tgt := 16) dX5_isDigit_9 (by decide) (fun c_9 => ?_) (fun c_9 => ?_)
    · have H := H.1 c_9
      refine k_iconst C (pc := 16) (v := (0 : Int32)) dX5_isDigit_16 rfl ?_
      exact k_zret C (pc := 17) hr rfl dX5_isDigit_17 ⟨rfl, H⟩
    · have H := H.2 c_9
      refine k_iconst C (pc := 12) (v := (1 : Int32)) dX5_isDigit_12 rfl ?_
      refine k_goto C (pc := 13) (tgt := 17) dX5_isDigit_13 (by decide) ?_
      exact k_zret C (pc := 17) hr rfl dX5_isDigit_17 ⟨rfl, H⟩
/-! WidowWatch$Reader.isLetter(I)Z -/
theorem dX5_isLetter_0 : decode cX5_isLetter 0 = .ok (.iload_n 0, 1) := by decide +kernel
theorem dX5_isLetter_1 : decode cX5_isLetter 1 = .ok (.bipush 97, 2) := by decide +kernel
theorem dX5_isLetter_3 : decode cX5_isLetter 3 = .ok (.if_icmp .lt 13, 3) := by decide +kernel
theorem dX5_isLetter_6 : decode cX5_isLetter 6 = .ok (.iload_n 0, 1) := by decide +kernel
theorem dX5_isLetter_7 : decode cX5_isLetter 7 = .ok (.bipush 122, 2) := by decide +kernel
theorem dX5_isLetter_9 : decode cX5_isLetter 9 = .ok (.if_icmp .gt 7, 3) := by decide +kernel
theorem dX5_isLetter_12 : decode cX5_isLetter 12 = .ok (.iconst 1, 1) := by decide +kernel
theorem dX5_isLetter_13 : decode cX5_isLetter 13 = .ok (.goto 4, 3) := by decide +kernel
theorem dX5_isLetter_16 : decode cX5_isLetter 16 = .ok (.iconst 0, 1) := by decide +kernel
theorem dX5_isLetter_17 : decode cX5_isLetter 17 = .ok (.ireturn, 1) := by decide +kernel
theorem okX5_isLetter : okY yX5_isLetter 1 := ⟨by decide +kernel, by decide +kernel, by decide +kernel⟩
def wpX5_isLetter (a1 : Int32) (Post : Int32 → Prop) : Prop := (a1 < (97 : Int32) → Post (0 : Int32)) ∧ (¬ a1 < (97 : Int32) → ((122 : Int32) < a1 → Post (0 : Int32)) ∧ (¬ (122 : Int32) < a1 → Post (1 : Int32)))
set_option maxHeartbeats 4000000 in
set_option maxRecDepth 100000 in
theorem conX5_isLetter (l : Launch) (D : va_G) (cA : Nat → ClassId) (a1 : Int32) (Post : Int32 → Prop) (H : wpX5_isLetter a1 Post) : Con l D cA yX5_isLetter (wm yX5_isLetter cX5_isLetter 1 (some .boolean)) { frames := 0, cells := 0, slots := 0, locals := 0 } [] [.int a1] 0 0 (PI (fun r w1 => w1 = [] ∧ Post r)) := by
  refine Con.of (by decide) (Nat.le_of_ble_eq_true rfl) ?_
  intro p e s m args below meth c C hr hini
  refine k_eq (ws' := []) (lv' := [(0, .int a1)]) (st' := []) rfl rfl rfl ?_
  refine k_iload_n C 0 (pc := 0) dX5_isLetter_0 rfl rfl ?_
  refine k_bipush C (pc := 1) (v := (97 : Int32)) dX5_isLetter_1 (by decide) ?_
  refine k_icmp_lt C (pc := 3) (tgt := 16) dX5_isLetter_3 (by decide) (fun c_3 => ?_) (fun c_3 => ?_)
  · have H := H.1 c_3
    refine k_iconst C (pc := 16) (v := (0 : Int32)) dX5_isLetter_16 rfl ?_
    exact k_zret C (pc := 17) hr rfl dX5_isLetter_17 ⟨rfl, H⟩
  · have H := H.2 c_3
    refine k_iload_n C 0 (pc := 6) dX5_isLetter_6 rfl rfl ?_
    refine k_bipush C (pc := 7) (v := (122 : Int32)) dX5_isLetter_7 (by decide) ?_
    refine k_icmp_gt C (pc := 9) (tgt := 16) dX5_isLetter_9 (by decide) (fun c_9 => ?_) (fun c_9 => ?_)
    · have H := H.1 c_9
      refine k_iconst C (pc := 16) (v := (0 : Int32)) dX5_isLetter_16 rfl ?_
      exact k_zret C (pc := 17) hr rfl dX5_isLetter_17 ⟨rfl, H⟩
    · have H := H.2 c_9
      refine k_iconst C (pc := 12) (v := (1 : Int32)) dX5_isLetter_12 rfl ?_
      refine k_goto C (pc := 13) (tgt := 17) dX5_isLetter_13 (by decide) ?_
      exact k_zret C (pc := 17) hr rfl dX5_isLetter_17 ⟨rfl, H⟩
/-! WidowWatch$Reader.fail(II)V -/
theorem dX5_fail_0 : decode cX5_fail 0 = .ok (.aload_n 0, 1) := by decide +kernel
theorem dX5_fail_1 : decode cX5_fail 1 = .ok (.getfield 29, 3) := by decide +kernel
theorem dX5_fail_4 : decode cX5_fail 4 = .ok (.ifCond .ne 13, 3) := by decide +kernel
theorem dX5_fail_7 : decode cX5_fail 7 = .ok (.aload_n 0, 1) := by decide +kernel
theorem dX5_fail_8 : decode cX5_fail 8 = .ok (.iload_n 1, 1) := by decide +kernel
theorem dX5_fail_9 : decode cX5_fail 9 = .ok (.putfield 29, 3) := by decide +kernel
theorem dX5_fail_12 : decode cX5_fail 12 = .ok (.aload_n 0, 1) := by decide +kernel
theorem dX5_fail_13 : decode cX5_fail 13 = .ok (.iload_n 2, 1) := by decide +kernel
theorem dX5_fail_14 : decode cX5_fail 14 = .ok (.putfield 32, 3) := by decide +kernel
theorem dX5_fail_17 : decode cX5_fail 17 = .ok (.return_, 1) := by decide +kernel
theorem okX5_fail : okY yX5_fail 2 := ⟨by decide +kernel, by decide +kernel, by decide +kernel⟩
def wpX5_fail (error : Int32) (errorOffset : Int32) (a1 : Int32) (a2 : Int32) (Post : Int32 → Int32 → Prop) : Prop := (¬ error = 0 → Post error errorOffset) ∧ (error = 0 → Post a1 a2)
set_option maxHeartbeats 4000000 in
set_option maxRecDepth 100000 in
theorem conX5_fail (l : Launch) (D : va_G) (cA : Nat → ClassId) (h_t : Nat) (u_t_draft u_t_text : Value) (length_ : Int32) (at_ : Int32) (error : Int32) (errorOffset : Int32) (hasCosts : Int32) (hasLimit : Int32) (a1 : Int32) (a2 : Int32) (Post : Int32 → Int32 → Prop) (H : wpX5_fail error errorOffset a1 a2 Post) : Con l D cA yX5_fail (wm yX5_fail cX5_fail 3 none) { frames := 0, cells := 0, slots := 0, locals := 0 } [(h_t, .inr (5, [u_t_draft, u_t_text, .int length_, .int at_, .int error, .int errorOffset, .int hasCosts, .int hasLimit]))] [.ref h_t, .int a1, .int a2] 0 0 (PV (fun w1 => ∃ (error' : Int32) (errorOffset' : Int32), w1 = [(h_t, .inr (5, [u_t_draft, u_t_text, .int length_, .int at_, .int (error'), .int (errorOffset'), .int hasCosts, .int hasLimit]))] ∧ Post error' errorOffset')) := by
  refine Con.of (by decide) (Nat.le_of_ble_eq_true rfl) ?_
  intro p e s m args below meth c C hr hini
  refine k_eq (ws' := [(h_t, .inr (5, [u_t_draft, u_t_text, .int length_, .int at_, .int error, .int errorOffset, .int hasCosts, .int hasLimit]))]) (lv' := [(0, .ref h_t), (1, .int a1), (2, .int a2)]) (st' := []) rfl rfl rfl ?_
  refine k_aload_n C 0 (pc := 0) dX5_fail_0 rfl rfl ?_
  refine k_get C (pc := 1) inW_X5 0 4 rfl rfl (Nat.lt_of_lt_of_le (Nat.lt_succ_self _) (Nat.le_of_ble_eq_true rfl)) (ref := "WidowWatch$Reader") tW_1_120 rfl rfl dX5_fail_1 ?_
  refine k_if_ne C (pc := 4) (tgt := 17) dX5_fail_4 (by decide) (fun c_4 => ?_) (fun c_4 => ?_)
  · have H := H.1 c_4
    exact k_vret C (pc := 17) hr dX5_fail_17 ⟨_, _, rfl, H⟩
  · have H := H.2 c_4
    refine k_aload_n C 0 (pc := 7) dX5_fail_7 rfl rfl ?_
    refine k_iload_n C 1 (pc := 8) dX5_fail_8 rfl rfl ?_
    refine k_put C (pc := 9) inW_X5 tyX5 tyX5_ok nmX5 0 4 rfl rfl (Nat.lt_of_lt_of_le (Nat.lt_succ_self _) (Nat.le_of_ble_eq_true rfl)) (ref := "WidowWatch$Reader") tW_1_120 rfl rfl rfl (ty := .int) rfl rfl (Nat.lt_of_lt_of_le (Nat.lt_succ_self _) (Nat.le_of_ble_eq_true rfl)) (fs' := [u_t_draft, u_t_text, .int length_, .int at_, .int a1, .int errorOffset, .int hasCosts, .int hasLimit]) rfl (ws' := [(h_t, .inr (5, [u_t_draft, u_t_text, .int length_, .int at_, .int a1, .int errorOffset, .int hasCosts, .int hasLimit]))]) rfl dX5_fail_9 ?_
    refine k_aload_n C 0 (pc := 12) dX5_fail_12 rfl rfl ?_
    refine k_iload_n C 2 (pc := 13) dX5_fail_13 rfl rfl ?_
    refine k_put C (pc := 14) inW_X5 tyX5 tyX5_ok nmX5 0 5 rfl rfl (Nat.lt_of_lt_of_le (Nat.lt_succ_self _) (Nat.le_of_ble_eq_true rfl)) (ref := "WidowWatch$Reader") tW_1_122 rfl rfl rfl (ty := .int) rfl rfl (Nat.lt_of_lt_of_le (Nat.lt_succ_self _) (Nat.le_of_ble_eq_true rfl)) (fs' := [u_t_draft, u_t_text, .int length_, .int at_, .int a1, .int a2, .int hasCosts, .int hasLimit]) rfl (ws' := [(h_t, .inr (5, [u_t_draft, u_t_text, .int length_, .int at_, .int a1, .int a2, .int hasCosts, .int hasLimit]))]) rfl dX5_fail_14 ?_
    exact k_vret C (pc := 17) hr dX5_fail_17 ⟨_, _, rfl, H⟩
/-! WidowWatch$Reader.nextByte()I -/
theorem dX5_nextByte_0 : decode cX5_nextByte 0 = .ok (.aload_n 0, 1) := by decide +kernel
theorem dX5_nextByte_1 : decode cX5_nextByte 1 = .ok (.getfield 26, 3) := by decide +kernel
theorem dX5_nextByte_4 : decode cX5_nextByte 4 = .ok (.aload_n 0, 1) := by decide +kernel
theorem dX5_nextByte_5 : decode cX5_nextByte 5 = .ok (.getfield 22, 3) := by decide +kernel
theorem dX5_nextByte_8 : decode cX5_nextByte 8 = .ok (.if_icmp .ge 32, 3) := by decide +kernel
theorem dX5_nextByte_11 : decode cX5_nextByte 11 = .ok (.aload_n 0, 1) := by decide +kernel
theorem dX5_nextByte_12 : decode cX5_nextByte 12 = .ok (.getfield 18, 3) := by decide +kernel
theorem dX5_nextByte_15 : decode cX5_nextByte 15 = .ok (.aload_n 0, 1) := by decide +kernel
theorem dX5_nextByte_16 : decode cX5_nextByte 16 = .ok (.getfield 26, 3) := by decide +kernel
theorem dX5_nextByte_19 : decode cX5_nextByte 19 = .ok (.invokestatic 124, 3) := by decide +kernel
theorem dX5_nextByte_22 : decode cX5_nextByte 22 = .ok (.bipush 32, 2) := by decide +kernel
theorem dX5_nextByte_24 : decode cX5_nextByte 24 = .ok (.if_icmp .ne 16, 3) := by decide +kernel
theorem dX5_nextByte_27 : decode cX5_nextByte 27 = .ok (.aload_n 0, 1) := by decide +kernel
theorem dX5_nextByte_28 : decode cX5_nextByte 28 = .ok (.dup, 1) := by decide +kernel
theorem dX5_nextByte_29 : decode cX5_nextByte 29 = .ok (.getfield 26, 3) := by decide +kernel
theorem dX5_nextByte_32 : decode cX5_nextByte 32 = .ok (.iconst 1, 1) := by decide +kernel
theorem dX5_nextByte_33 : decode cX5_nextByte 33 = .ok (.iadd, 1) := by decide +kernel
theorem dX5_nextByte_34 : decode cX5_nextByte 34 = .ok (.putfield 26, 3) := by decide +kernel
theorem dX5_nextByte_37 : decode cX5_nextByte 37 = .ok (.goto (-37), 3) := by decide +kernel
theorem dX5_nextByte_40 : decode cX5_nextByte 40 = .ok (.aload_n 0, 1) := by decide +kernel
theorem dX5_nextByte_41 : decode cX5_nextByte 41 = .ok (.getfield 26, 3) := by decide +kernel
theorem dX5_nextByte_44 : decode cX5_nextByte 44 = .ok (.aload_n 0, 1) := by decide +kernel
theorem dX5_nextByte_45 : decode cX5_nextByte 45 = .ok (.getfield 22, 3) := by decide +kernel
theorem dX5_nextByte_48 : decode cX5_nextByte 48 = .ok (.if_icmp .ge 17, 3) := by decide +kernel
theorem dX5_nextByte_51 : decode cX5_nextByte 51 = .ok (.aload_n 0, 1) := by decide +kernel
theorem dX5_nextByte_52 : decode cX5_nextByte 52 = .ok (.getfield 18, 3) := by decide +kernel
theorem dX5_nextByte_55 : decode cX5_nextByte 55 = .ok (.aload_n 0, 1) := by decide +kernel
theorem dX5_nextByte_56 : decode cX5_nextByte 56 = .ok (.getfield 26, 3) := by decide +kernel
theorem dX5_nextByte_59 : decode cX5_nextByte 59 = .ok (.invokestatic 124, 3) := by decide +kernel
theorem dX5_nextByte_62 : decode cX5_nextByte 62 = .ok (.goto 4, 3) := by decide +kernel
theorem dX5_nextByte_65 : decode cX5_nextByte 65 = .ok (.iconst (-1), 1) := by decide +kernel
theorem dX5_nextByte_66 : decode cX5_nextByte 66 = .ok (.ireturn, 1) := by decide +kernel
theorem okX5_nextByte : okY yX5_nextByte 0 := ⟨by decide +kernel, by decide +kernel, by decide +kernel⟩
def wpX5_nextByte_b40 (length_ : Int32) (n_text : Nat) (text : Nat → Int32) (Post : Int32 → Int32 → Prop)  (at__v : Int32) : Prop := (length_ ≤ at__v → Post (-1 : Int32) at__v) ∧ (¬ length_ ≤ at__v → wpX6_get n_text text at__v (fun r_1 => Post r_1 at__v))
def wpX5_nextByte_L0 (length_ : Int32) (n_text : Nat) (text : Nat → Int32) (Post : Int32 → Int32 → Prop)  : Nat → Int32 → Prop
  | 0 => fun _ => False
  | n0 + 1 => fun at__v => (length_ ≤ at__v → wpX5_nextByte_b40 length_ n_text text Post  at__v) ∧ (¬ length_ ≤ at__v → wpX6_get n_text text at__v (fun r_2 => (¬ r_2 = (32 : Int32) → wpX5_nextByte_b40 length_ n_text text Post  at__v) ∧ (r_2 = (32 : Int32) → (wpX5_nextByte_L0 length_ n_text text Post  n0) (at__v + (1 : Int32)))))
def wpX5_nextByte (length_ : Int32) (at_ : Int32) (n_text : Nat) (text : Nat → Int32) (Post : Int32 → Int32 → Prop) : Prop := ∃ m_, wpX5_nextByte_L0 length_ n_text text Post  m_ at_
set_option maxHeartbeats 4000000 in
set_option maxRecDepth 100000 in
theorem conX5_nextByte (l : Launch) (D : va_G) (cA : Nat → ClassId) (h_t h_t_text : Nat) (u_t_draft : Value) (length_ : Int32) (at_ : Int32) (error : Int32) (errorOffset : Int32) (hasCosts : Int32) (hasLimit : Int32) (n_text : Nat) (text : Nat → Int32) (Post : Int32 → Int32 → Prop) (H : wpX5_nextByte length_ at_ n_text text Post) : Con l D cA yX5_nextByte (wm yX5_nextByte cX5_nextByte 1 (some .int)) { frames := 1, cells := 0, slots := 0, locals := 21 } [(h_t, .inr (5, [u_t_draft, .ref h_t_text, .int length_, .int at_, .int error, .int errorOffset, .int hasCosts, .int hasLimit])), (h_t_text, .inl (cA 0, n_text, .inl text))] [.ref h_t] 0 0 (PI (fun r w1 => ∃ (at_' : Int32), w1 = [(h_t, .inr (5, [u_t_draft, .ref h_t_text, .int length_, .int (at_'), .int error, .int errorOffset, .int hasCosts, .int hasLimit])), (h_t_text, .inl (cA 0, n_text, .inl text))] ∧ Post r at_')) := by
  refine Con.of (by decide) (Nat.le_of_ble_eq_true rfl) ?_
  intro p e s m args below meth c C hr hini
  have B40 : ∀  (at__v : Int32), wpX5_nextByte_b40 length_ n_text text Post  at__v → Kf p l e { frames := 1, cells := 0, slots := 0, locals := 21 } s m args below meth c D (va_A [(h_t, .inr (5, [u_t_draft, .ref h_t_text, .int length_, .int at_, .int error, .int errorOffset, .int hasCosts, .int hasLimit])), (h_t_text, .inl (cA 0, n_text, .inl text))] s.heap.size) 1 0 0 (MQ below (QC D [(h_t, .inr (5, [u_t_draft, .ref h_t_text, .int length_, .int at_, .int error, .int errorOffset, .int hasCosts, .int hasLimit])), (h_t_text, .inl (cA 0, n_text, .inl text))] s.heap.size (PI (fun r w1 => ∃ (at_' : Int32), w1 = [(h_t, .inr (5, [u_t_draft, .ref h_t_text, .int length_, .int (at_'), .int error, .int errorOffset, .int hasCosts, .int hasLimit])), (h_t_text, .inl (cA 0, n_text, .inl text))] ∧ Post r at_'))) args s 0 0 (va_A [(h_t, .inr (5, [u_t_draft, .ref h_t_text, .int length_, .int at_, .int error, .int errorOffset, .int hasCosts, .int hasLimit])), (h_t_text, .inl (cA 0, n_text, .inl text))] s.heap.size)) [(h_t, .inr (5, [u_t_draft, .ref h_t_text, .int length_, .int at__v, .int error, .int errorOffset, .int hasCosts, .int hasLimit])), (h_t_text, .inl (cA 0, n_text, .inl text))] 40 [(0, .ref h_t)] [] := by
    intro  at__v H
    refine k_aload_n C 0 (pc := 40) dX5_nextByte_40 rfl rfl ?_
    refine k_get C (pc := 41) inW_X5 0 3 rfl rfl (Nat.lt_of_lt_of_le (Nat.lt_succ_self _) (Nat.le_of_ble_eq_true rfl)) (ref := "WidowWatch$Reader") tW_1_119 rfl rfl dX5_nextByte_41 ?_
    refine k_aload_n C 0 (pc := 44) dX5_nextByte_44 rfl rfl ?_
    refine k_get C (pc := 45) inW_X5 0 2 rfl rfl (Nat.lt_of_lt_of_le (Nat.lt_succ_self _) (Nat.le_of_ble_eq_true rfl)) (ref := "WidowWatch$Reader") tW_1_118 rfl rfl dX5_nextByte_45 ?_
    refine k_icmp_ge C (pc := 48) (tgt := 65) dX5_nextByte_48 (by decide) (fun c_48 => ?_) (fun c_48 => ?_)
    · have H := H.1 c_48
      refine k_iconst C (pc := 65) (v := (-1 : Int32)) dX5_nextByte_65 rfl ?_
      exact k_iret C (pc := 66) hr dX5_nextByte_66 ⟨_, rfl, H⟩
    · have H := H.2 c_48
      refine k_aload_n C 0 (pc := 51) dX5_nextByte_51 rfl rfl ?_
      refine k_get C (pc := 52) inW_X5 0 1 rfl rfl (Nat.lt_of_lt_of_le (Nat.lt_succ_self _) (Nat.le_of_ble_eq_true rfl)) (ref := "WidowWatch$Reader") tW_1_117 rfl rfl dX5_nextByte_52 ?_
      refine k_aload_n C 0 (pc := 55) dX5_nextByte_55 rfl rfl ?_
      refine k_get C (pc := 56) inW_X5 0 3 rfl rfl (Nat.lt_of_lt_of_le (Nat.lt_succ_self _) (Nat.le_of_ble_eq_true rfl)) (ref := "WidowWatch$Reader") tW_1_119 rfl rfl dX5_nextByte_56 ?_
      refine k_calli C (pc := 59) [1] [0] (wc := [(h_t_text, .inl (cA 0, n_text, .inl text))]) (wr := [(h_t, .inr (5, [u_t_draft, .ref h_t_text, .int length_, .int at__v, .int error, .int errorOffset, .int hasCosts, .int hasLimit]))]) rfl rfl rfl rfl (by decide) (k_runSN C (As := [.ref h_t_text, .int at__v]) (rest := []) (conX6_get l D cA h_t_text n_text text at__v  _ H) ⟨k_cwN C tW_2_46 (k_n12 C) tW_1_1 okX6_get rfl rfl ⟨Nat.le_of_ble_eq_true rfl, Nat.le_of_ble_eq_true rfl⟩, C.w tW_2_45, trivial⟩ rfl rfl (Nat.le_of_ble_eq_true rfl) dX5_nextByte_59 ⟨Nat.le_of_ble_eq_true rfl, Nat.le_of_ble_eq_true rfl⟩) (fun r_1 w1_ hw_ => ?_)
      obtain ⟨rfl, H⟩ := hw_
      refine k_ws [0, 1] (ws' := [(h_t, .inr (5, [u_t_draft, .ref h_t_text, .int length_, .int at__v, .int error, .int errorOffset, .int hasCosts, .int hasLimit])), (h_t_text, .inl (cA 0, n_text, .inl text))]) rfl rfl ?_
      refine k_goto C (pc := 62) (tgt := 66) dX5_nextByte_62 (by decide) ?_
      exact k_iret C (pc := 66) hr dX5_nextByte_66 ⟨_, rfl, H⟩
  have B0 : ∀  (n : Nat) (at__v : Int32), wpX5_nextByte_L0 length_ n_text text Post  n at__v → Kf p l e { frames := 1, cells := 0, slots := 0, locals := 21 } s m args below meth c D (va_A [(h_t, .inr (5, [u_t_draft, .ref h_t_text, .int length_, .int at_, .int error, .int errorOffset, .int hasCosts, .int hasLimit])), (h_t_text, .inl (cA 0, n_text, .inl text))] s.heap.size) 1 0 0 (MQ below (QC D [(h_t, .inr (5, [u_t_draft, .ref h_t_text, .int length_, .int at_, .int error, .int errorOffset, .int hasCosts, .int hasLimit])), (h_t_text, .inl (cA 0, n_text, .inl text))] s.heap.size (PI (fun r w1 => ∃ (at_' : Int32), w1 = [(h_t, .inr (5, [u_t_draft, .ref h_t_text, .int length_, .int (at_'), .int error, .int errorOffset, .int hasCosts, .int hasLimit])), (h_t_text, .inl (cA 0, n_text, .inl text))] ∧ Post r at_'))) args s 0 0 (va_A [(h_t, .inr (5, [u_t_draft, .ref h_t_text, .int length_, .int at_, .int error, .int errorOffset, .int hasCosts, .int hasLimit])), (h_t_text, .inl (cA 0, n_text, .inl text))] s.heap.size)) [(h_t, .inr (5, [u_t_draft, .ref h_t_text, .int length_, .int at__v, .int error, .int errorOffset, .int hasCosts, .int hasLimit])), (h_t_text, .inl (cA 0, n_text, .inl text))] 0 [(0, .ref h_t)] [] := by
    intro  n
    induction n with
    | zero =>
      intro at__v H
      exact H.elim
    | succ n0 ih0 =>
      intro at__v H
      refine k_aload_n C 0 (pc := 0) dX5_nextByte_0 rfl rfl ?_
      refine k_get C (pc := 1) inW_X5 0 3 rfl rfl (Nat.lt_of_lt_of_le (Nat.lt_succ_self _) (Nat.le_of_ble_eq_true rfl)) (ref := "WidowWatch$Reader") tW_1_119 rfl rfl dX5_nextByte_1 ?_
      refine k_aload_n C 0 (pc := 4) dX5_nextByte_4 rfl rfl ?_
      refine k_get C (pc := 5) inW_X5 0 2 rfl rfl (Nat.lt_of_lt_of_le (Nat.lt_succ_self _) (Nat.le_of_ble_eq_true rfl)) (ref := "WidowWatch$Reader") tW_1_118 rfl rfl dX5_nextByte_5 ?_
      refine k_icmp_ge C (pc := 8) (tgt := 40) dX5_nextByte_8 (by decide) (fun c_8 => ?_) (fun c_8 => ?_)
      · have H := H.1 c_8
        refine k_lv (pc := 40) [0] (lv' := [(0, .ref h_t)]) rfl ?_
        exact B40  at__v H
      · have H := H.2 c_8
        refine k_aload_n C 0 (pc := 11) dX5_nextByte_11 rfl rfl ?_
        refine k_get C (pc := 12) inW_X5 0 1 rfl rfl (Nat.lt_of_lt_of_le (Nat.lt_succ_self _) (Nat.le_of_ble_eq_true rfl)) (ref := "WidowWatch$Reader") tW_1_117 rfl rfl dX5_nextByte_12 ?_
        refine k_aload_n C 0 (pc := 15) dX5_nextByte_15 rfl rfl ?_
        refine k_get C (pc := 16) inW_X5 0 3 rfl rfl (Nat.lt_of_lt_of_le (Nat.lt_succ_self _) (Nat.le_of_ble_eq_true rfl)) (ref := "WidowWatch$Reader") tW_1_119 rfl rfl dX5_nextByte_16 ?_
        refine k_calli C (pc := 19) [1] [0] (wc := [(h_t_text, .inl (cA 0, n_text, .inl text))]) (wr := [(h_t, .inr (5, [u_t_draft, .ref h_t_text, .int length_, .int at__v, .int error, .int errorOffset, .int hasCosts, .int hasLimit]))]) rfl rfl rfl rfl (by decide) (k_runSN C (As := [.ref h_t_text, .int at__v]) (rest := []) (conX6_get l D cA h_t_text n_text text at__v  _ H) ⟨k_cwN C tW_2_46 (k_n12 C) tW_1_1 okX6_get rfl rfl ⟨Nat.le_of_ble_eq_true rfl, Nat.le_of_ble_eq_true rfl⟩, C.w tW_2_45, trivial⟩ rfl rfl (Nat.le_of_ble_eq_true rfl) dX5_nextByte_19 ⟨Nat.le_of_ble_eq_true rfl, Nat.le_of_ble_eq_true rfl⟩) (fun r_2 w1_ hw_ => ?_)
        obtain ⟨rfl, H⟩ := hw_
        refine k_ws [0, 1] (ws' := [(h_t, .inr (5, [u_t_draft, .ref h_t_text, .int length_, .int at__v, .int error, .int errorOffset, .int hasCosts, .int hasLimit])), (h_t_text, .inl (cA 0, n_text, .inl text))]) rfl rfl ?_
        refine k_bipush C (pc := 22) (v := (32 : Int32)) dX5_nextByte_22 (by decide) ?_
        refine k_icmp_ne C (pc := 24) (tgt := 40) dX5_nextByte_24 (by decide) (fun c_24 => ?_) (fun c_24 => ?_)
        · have H := H.1 c_24
          refine k_lv (pc := 40) [0] (lv' := [(0, .ref h_t)]) rfl ?_
          exact B40  at__v H
        · have H := H.2 c_24
          refine k_aload_n C 0 (pc := 27) dX5_nextByte_27 rfl rfl ?_
          refine k_dup C (pc := 28) dX5_nextByte_28 rfl ?_
          refine k_get C (pc := 29) inW_X5 0 3 rfl rfl (Nat.lt_of_lt_of_le (Nat.lt_succ_self _) (Nat.le_of_ble_eq_true rfl)) (ref := "WidowWatch$Reader") tW_1_119 rfl rfl dX5_nextByte_29 ?_
          refine k_iconst C (pc := 32) (v := (1 : Int32)) dX5_nextByte_32 rfl ?_
          refine k_iadd C (pc := 33) dX5_nextByte_33 ?_
          refine k_put C (pc := 34) inW_X5 tyX5 tyX5_ok nmX5 0 3 rfl rfl (Nat.lt_of_lt_of_le (Nat.lt_succ_self _) (Nat.le_of_ble_eq_true rfl)) (ref := "WidowWatch$Reader") tW_1_119 rfl rfl rfl (ty := .int) rfl rfl (Nat.lt_of_lt_of_le (Nat.lt_succ_self _) (Nat.le_of_ble_eq_true rfl)) (fs' := [u_t_draft, .ref h_t_text, .int length_, .int (at__v + (1 : Int32)), .int error, .int errorOffset, .int hasCosts, .int hasLimit]) rfl (ws' := [(h_t, .inr (5, [u_t_draft, .ref h_t_text, .int length_, .int (at__v + (1 : Int32)), .int error, .int errorOffset, .int hasCosts, .int hasLimit])), (h_t_text, .inl (cA 0, n_text, .inl text))]) rfl dX5_nextByte_34 ?_
          refine k_goto C (pc := 37) (tgt := 0) dX5_nextByte_37 (by decide) ?_
          refine k_lv (pc := 0) [0] (lv' := [(0, .ref h_t)]) rfl ?_
          exact ih0 (at__v + (1 : Int32)) H
  refine k_eq (ws' := [(h_t, .inr (5, [u_t_draft, .ref h_t_text, .int length_, .int at_, .int error, .int errorOffset, .int hasCosts, .int hasLimit])), (h_t_text, .inl (cA 0, n_text, .inl text))]) (lv' := [(0, .ref h_t)]) (st' := []) rfl rfl rfl ?_
  obtain ⟨n_, H⟩ := H
  refine k_lv (pc := 0) [0] (lv' := [(0, .ref h_t)]) rfl ?_
  exact B0  n_ at_ H
/-! WidowWatch$Reader.takesWord(Ljava/lang/String;)Z -/
theorem dX5_takesWord_0 : decode cX5_takesWord 0 = .ok (.aload_n 0, 1) := by decide +kernel
theorem dX5_takesWord_1 : decode cX5_takesWord 1 = .ok (.invokevirtual 48, 3) := by decide +kernel
theorem dX5_takesWord_4 : decode cX5_takesWord 4 = .ok (.pop, 1) := by decide +kernel
theorem dX5_takesWord_5 : decode cX5_takesWord 5 = .ok (.aload_n 0, 1) := by decide +kernel
theorem dX5_takesWord_6 : decode cX5_takesWord 6 = .ok (.getfield 26, 3) := by decide +kernel
theorem dX5_takesWord_9 : decode cX5_takesWord 9 = .ok (.istore_n 2, 1) := by decide +kernel
theorem dX5_takesWord_10 : decode cX5_takesWord 10 = .ok (.iload_n 2, 1) := by decide +kernel
theorem dX5_takesWord_11 : decode cX5_takesWord 11 = .ok (.aload_n 0, 1) := by decide +kernel
theorem dX5_takesWord_12 : decode cX5_takesWord 12 = .ok (.getfield 22, 3) := by decide +kernel
theorem dX5_takesWord_15 : decode cX5_takesWord 15 = .ok (.if_icmp .ge 23, 3) := by decide +kernel
theorem dX5_takesWord_18 : decode cX5_takesWord 18 = .ok (.aload_n 0, 1) := by decide +kernel
theorem dX5_takesWord_19 : decode cX5_takesWord 19 = .ok (.getfield 18, 3) := by decide +kernel
theorem dX5_takesWord_22 : decode cX5_takesWord 22 = .ok (.iload_n 2, 1) := by decide +kernel
theorem dX5_takesWord_23 : decode cX5_takesWord 23 = .ok (.invokestatic 124, 3) := by decide +kernel
theorem dX5_takesWord_26 : decode cX5_takesWord 26 = .ok (.invokestatic 128, 3) := by decide +kernel
theorem dX5_takesWord_29 : decode cX5_takesWord 29 = .ok (.ifCond .eq 9, 3) := by decide +kernel
theorem dX5_takesWord_32 : decode cX5_takesWord 32 = .ok (.iinc 2 1, 3) := by decide +kernel
theorem dX5_takesWord_35 : decode cX5_takesWord 35 = .ok (.goto (-25), 3) := by decide +kernel
theorem dX5_takesWord_38 : decode cX5_takesWord 38 = .ok (.iload_n 2, 1) := by decide +kernel
theorem dX5_takesWord_39 : decode cX5_takesWord 39 = .ok (.aload_n 0, 1) := by decide +kernel
theorem dX5_takesWord_40 : decode cX5_takesWord 40 = .ok (.getfield 26, 3) := by decide +kernel
theorem dX5_takesWord_43 : decode cX5_takesWord 43 = .ok (.isub, 1) := by decide +kernel
theorem dX5_takesWord_44 : decode cX5_takesWord 44 = .ok (.aload_n 1, 1) := by decide +kernel
theorem dX5_takesWord_45 : decode cX5_takesWord 45 = .ok (.invokevirtual 131, 3) := by decide +kernel
theorem dX5_takesWord_48 : decode cX5_takesWord 48 = .ok (.if_icmp .eq 5, 3) := by decide +kernel
theorem dX5_takesWord_51 : decode cX5_takesWord 51 = .ok (.iconst 0, 1) := by decide +kernel
theorem dX5_takesWord_52 : decode cX5_takesWord 52 = .ok (.ireturn, 1) := by decide +kernel
theorem dX5_takesWord_53 : decode cX5_takesWord 53 = .ok (.iconst 0, 1) := by decide +kernel
theorem dX5_takesWord_54 : decode cX5_takesWord 54 = .ok (.istore_n 3, 1) := by decide +kernel
theorem dX5_takesWord_55 : decode cX5_takesWord 55 = .ok (.iload_n 3, 1) := by decide +kernel
theorem dX5_takesWord_56 : decode cX5_takesWord 56 = .ok (.aload_n 1, 1) := by decide +kernel
theorem dX5_takesWord_57 : decode cX5_takesWord 57 = .ok (.invokevirtual 131, 3) := by decide +kernel
theorem dX5_takesWord_60 : decode cX5_takesWord 60 = .ok (.if_icmp .ge 32, 3) := by decide +kernel
theorem dX5_takesWord_63 : decode cX5_takesWord 63 = .ok (.aload_n 0, 1) := by decide +kernel
theorem dX5_takesWord_64 : decode cX5_takesWord 64 = .ok (.getfield 18, 3) := by decide +kernel
theorem dX5_takesWord_67 : decode cX5_takesWord 67 = .ok (.aload_n 0, 1) := by decide +kernel
theorem dX5_takesWord_68 : decode cX5_takesWord 68 = .ok (.getfield 26, 3) := by decide +kernel
theorem dX5_takesWord_71 : decode cX5_takesWord 71 = .ok (.iload_n 3, 1) := by decide +kernel
theorem dX5_takesWord_72 : decode cX5_takesWord 72 = .ok (.iadd, 1) := by decide +kernel
theorem dX5_takesWord_73 : decode cX5_takesWord 73 = .ok (.invokestatic 124, 3) := by decide +kernel
theorem dX5_takesWord_76 : decode cX5_takesWord 76 = .ok (.aload_n 1, 1) := by decide +kernel
theorem dX5_takesWord_77 : decode cX5_takesWord 77 = .ok (.iload_n 3, 1) := by decide +kernel
theorem dX5_takesWord_78 : decode cX5_takesWord 78 = .ok (.invokevirtual 135, 3) := by decide +kernel
theorem dX5_takesWord_81 : decode cX5_takesWord 81 = .ok (.if_icmp .eq 5, 3) := by decide +kernel
theorem dX5_takesWord_84 : decode cX5_takesWord 84 = .ok (.iconst 0, 1) := by decide +kernel
theorem dX5_takesWord_85 : decode cX5_takesWord 85 = .ok (.ireturn, 1) := by decide +kernel
theorem dX5_takesWord_86 : decode cX5_takesWord 86 = .ok (.iinc 3 1, 3) := by decide +kernel
theorem dX5_takesWord_89 : decode cX5_takesWord 89 = .ok (.goto (-34), 3) := by decide +kernel
theorem dX5_takesWord_92 : decode cX5_takesWord 92 = .ok (.aload_n 0, 1) := by decide +kernel
theorem dX5_takesWord_93 : decode cX5_takesWord 93 = .ok (.iload_n 2, 1) := by decide +kernel
theorem dX5_takesWord_94 : decode cX5_takesWord 94 = .ok (.putfield 26, 3) := by decide +kernel
theorem dX5_takesWord_97 : decode cX5_takesWord 97 = .ok (.iconst 1, 1) := by decide +kernel
theorem dX5_takesWord_98 : decode cX5_takesWord 98 = .ok (.ireturn, 1) := by decide +kernel
theorem okX5_takesWord : okY yX5_takesWord 1 := ⟨by decide +kernel, by decide +kernel, by decide +kernel⟩
def wpX5_takesWord_L55 (length_ : Int32) (n_text : Nat) (text : Nat → Int32) (w1 : Nat) (Post : Int32 → Int32 → Prop)  : Nat → Int32 → Int32 → Int32 → Prop
  | 0 => fun _ _ _ => False
  | n55 + 1 => fun at__v x2 x3 => ((nI (strL.getD w1 0)) ≤ x3 → Post (1 : Int32) x2) ∧ (¬ (nI (strL.getD w1 0)) ≤ x3 → wpX6_get n_text text (at__v + x3) (fun r_2 => vp_in x3 (strL.getD w1 0) ∧ (r_2 = (chr w1 x3.toNatClampNeg) → (wpX5_takesWord_L55 length_ n_text text w1 Post  n55) at__v x2 (x3 + (1 : Int32))) ∧ (¬ r_2 = (chr w1 x3.toNatClampNeg) → Post (0 : Int32) at__v)))
def wpX5_takesWord_b38 (length_ : Int32) (n_text : Nat) (text : Nat → Int32) (w1 : Nat) (Post : Int32 → Int32 → Prop)  (at__v : Int32) (x2 : Int32) : Prop := ((x2 - at__v) = (nI (strL.getD w1 0)) → ∃ m_, wpX5_takesWord_L55 length_ n_text text w1 Post  m_ at__v x2 (0 : Int32)) ∧ (¬ (x2 - at__v) = (nI (strL.getD w1 0)) → Post (0 : Int32) at__v)
def wpX5_takesWord_L10 (length_ : Int32) (n_text : Nat) (text : Nat → Int32) (w1 : Nat) (Post : Int32 → Int32 → Prop)  : Nat → Int32 → Int32 → Prop
  | 0 => fun _ _ => False
  | n10 + 1 => fun at__v x2 => (length_ ≤ x2 → wpX5_takesWord_b38 length_ n_text text w1 Post  at__v x2) ∧ (¬ length_ ≤ x2 → wpX6_get n_text text x2 (fun r_4 => wpX5_isLetter r_4 (fun r_5 => (r_5 = 0 → wpX5_takesWord_b38 length_ n_text text w1 Post  at__v x2) ∧ (¬ r_5 = 0 → (wpX5_takesWord_L10 length_ n_text text w1 Post  n10) at__v (x2 + (1 : Int32))))))
def wpX5_takesWord (length_ : Int32) (at_ : Int32) (n_text : Nat) (text : Nat → Int32) (w1 : Nat) (Post : Int32 → Int32 → Prop) : Prop := wpX5_nextByte length_ at_ n_text text (fun r_1 at__1 => ∃ m_, wpX5_takesWord_L10 length_ n_text text w1 Post  m_ at__1 at__1)
set_option maxHeartbeats 4000000 in
set_option maxRecDepth 100000 in
theorem conX5_takesWord (l : Launch) (D : va_G) (cA : Nat → ClassId) (h_t h_t_text : Nat) (u_t_draft : Value) (length_ : Int32) (at_ : Int32) (error : Int32) (errorOffset : Int32) (hasCosts : Int32) (hasLimit : Int32) (n_text : Nat) (text : Nat → Int32) (w1 : Nat) (hw1 : w1 < 10) (Post : Int32 → Int32 → Prop) (H : wpX5_takesWord length_ at_ n_text text w1 Post) : Con l D cA yX5_takesWord (wm yX5_takesWord cX5_takesWord 4 (some .boolean)) { frames := 4, cells := 0, slots := 0, locals := 86 } [(h_t, .inr (5, [u_t_draft, .ref h_t_text, .int length_, .int at_, .int error, .int errorOffset, .int hasCosts, .int hasLimit])), (h_t_text, .inl (cA 0, n_text, .inl text))] [.ref h_t, .ref (cA (100 + w1))] 0 0 (PI (fun r w1 => ∃ (at_' : Int32), w1 = [(h_t, .inr (5, [u_t_draft, .ref h_t_text, .int length_, .int (at_'), .int error, .int errorOffset, .int hasCosts, .int hasLimit])), (h_t_text, .inl (cA 0, n_text, .inl text))] ∧ Post r at_')) := by
  refine Con.of (by decide) (Nat.le_of_ble_eq_true rfl) ?_
  intro p e s m args below meth c C hr hini
  have B55 : ∀  (n : Nat) (at__v : Int32) (x2 : Int32) (x3 : Int32), wpX5_takesWord_L55 length_ n_text text w1 Post  n at__v x2 x3 → Kf p l e { frames := 4, cells := 0, slots := 0, locals := 86 } s m args below meth c D (va_A [(h_t, .inr (5, [u_t_draft, .ref h_t_text, .int length_, .int at_, .int error, .int errorOffset, .int hasCosts, .int hasLimit])), (h_t_text, .inl (cA 0, n_text, .inl text))] s.heap.size) 4 0 0 (MQ below (QC D [(h_t, .inr (5, [u_t_draft, .ref h_t_text, .int length_, .int at_, .int error, .int errorOffset, .int hasCosts, .int hasLimit])), (h_t_text, .inl (cA 0, n_text, .inl text))] s.heap.size (PI (fun r w1 => ∃ (at_' : Int32), w1 = [(h_t, .inr (5, [u_t_draft, .ref h_t_text, .int length_, .int (at_'), .int error, .int errorOffset, .int hasCosts, .int hasLimit])), (h_t_text, .inl (cA 0, n_text, .inl text))] ∧ Post r at_'))) args s 0 0 (va_A [(h_t, .inr (5, [u_t_draft, .ref h_t_text, .int length_, .int at_, .int error, .int errorOffset, .int hasCosts, .int hasLimit])), (h_t_text, .inl (cA 0, n_text, .inl text))] s.heap.size)) [(h_t, .inr (5, [u_t_draft, .ref h_t_text, .int length_, .int at__v, .int error, .int errorOffset, .int hasCosts, .int hasLimit])), (h_t_text, .inl (cA 0, n_text, .inl text))] 55 [(0, .ref h_t), (1, .ref (cA (100 + w1))), (2, .int x2), (3, .int x3)] [] := by
    intro  n
    induction n with
    | zero =>
      intro at__v x2 x3 H
      exact H.elim
    | succ n55 ih55 =>
      intro at__v x2 x3 H
      refine k_iload_n C 3 (pc := 55) dX5_takesWord_55 rfl rfl ?_
      refine k_aload_n C 1 (pc := 56) dX5_takesWord_56 rfl rfl ?_
      refine k_callPi C (pc := 57) [] (wc := []) rfl rfl (k_runK C (As := []) (rest := [.int x3]) hw1 (conJ0_length_8abf5 l D cA w1 hw1) ⟨k_cwB C tW_3_34 tW_3_31 tW_1_18 okJ0_length_8abf5 rfl rfl ⟨Nat.le_of_ble_eq_true rfl, Nat.le_of_ble_eq_true rfl⟩, C.w tW_3_32, C.w tW_3_33⟩ rfl rfl (Nat.le_of_ble_eq_true rfl) dX5_takesWord_57 ⟨Nat.le_of_ble_eq_true rfl, Nat.le_of_ble_eq_true rfl⟩) (fun _ _ h_ => by obtain ⟨rfl, _⟩ := h_; rfl) (fun r_ w1_ hw_ => ?_)
      obtain ⟨rfl, rfl⟩ := hw_
      refine k_eq (pc := 60) (ws' := [(h_t, .inr (5, [u_t_draft, .ref h_t_text, .int length_, .int at__v, .int error, .int errorOffset, .int hasCosts, .int hasLimit])), (h_t_text, .inl (cA 0, n_text, .inl text))]) setAll_nil rfl rfl ?_
      refine k_icmp_ge C (pc := 60) (tgt := 92) dX5_takesWord_60 (by decide) (fun c_60 => ?_) (fun c_60 => ?_)
      · have H := H.1 c_60
        refine k_aload_n C 0 (pc := 92) dX5_takesWord_92 rfl rfl ?_
        refine k_iload_n C 2 (pc := 93) dX5_takesWord_93 rfl rfl ?_
        refine k_put C (pc := 94) inW_X5 tyX5 tyX5_ok nmX5 0 3 rfl rfl (Nat.lt_of_lt_of_le (Nat.lt_succ_self _) (Nat.le_of_ble_eq_true rfl)) (ref := "WidowWatch$Reader") tW_1_119 rfl rfl rfl (ty := .int) rfl rfl (Nat.lt_of_lt_of_le (Nat.lt_succ_self _) (Nat.le_of_ble_eq_true rfl)) (fs' := [u_t_draft, .ref h_t_text, .int length_, .int x2, .int error, .int errorOffset, .int hasCosts, .int hasLimit]) rfl (ws' := [(h_t, .inr (5, [u_t_draft, .ref h_t_text, .int length_, .int x2, .int error, .int errorOffset, .int hasCosts, .int hasLimit])), (h_t_text, .inl (cA 0, n_text, .inl text))]) rfl dX5_takesWord_94 ?_
        refine k_iconst C (pc := 97) (v := (1 : Int32)) dX5_takesWord_97 rfl ?_
        exact k_zret C (pc := 98) hr rfl dX5_takesWord_98 ⟨_, rfl, H⟩
      · have H := H.2 c_60
        refine k_aload_n C 0 (pc := 63) dX5_takesWord_63 rfl rfl ?_
        refine k_get C (pc := 64) inW_X5 0 1 rfl rfl (Nat.lt_of_lt_of_le (Nat.lt_succ_self _) (Nat.le_of_ble_eq_true rfl)) (ref := "WidowWatch$Reader") tW_1_117 rfl rfl dX5_takesWord_64 ?_
        refine k_aload_n C 0 (pc := 67) dX5_takesWord_67 rfl rfl ?_
        refine k_get C (pc := 68) inW_X5 0 3 rfl rfl (Nat.lt_of_lt_of_le (Nat.lt_succ_self _) (Nat.le_of_ble_eq_true rfl)) (ref := "WidowWatch$Reader") tW_1_119 rfl rfl dX5_takesWord_68 ?_
        refine k_iload_n C 3 (pc := 71) dX5_takesWord_71 rfl rfl ?_
        refine k_iadd C (pc := 72) dX5_takesWord_72 ?_
        refine k_calli C (pc := 73) [1] [0] (wc := [(h_t_text, .inl (cA 0, n_text, .inl text))]) (wr := [(h_t, .inr (5, [u_t_draft, .ref h_t_text, .int length_, .int at__v, .int error, .int errorOffset, .int hasCosts, .int hasLimit]))]) rfl rfl rfl rfl (by decide) (k_runSN C (As := [.ref h_t_text, .int (at__v + x3)]) (rest := []) (conX6_get l D cA h_t_text n_text text (at__v + x3)  _ H) ⟨k_cwN C tW_2_46 (k_n12 C) tW_1_1 okX6_get rfl rfl ⟨Nat.le_of_ble_eq_true rfl, Nat.le_of_ble_eq_true rfl⟩, C.w tW_2_45, trivial⟩ rfl rfl (Nat.le_of_ble_eq_true rfl) dX5_takesWord_73 ⟨Nat.le_of_ble_eq_true rfl, Nat.le_of_ble_eq_true rfl⟩) (fun r_2 w1_ hw_ => ?_)
        obtain ⟨rfl, H⟩ := hw_
        refine k_ws [0, 1] (ws' := [(h_t, .inr (5, [u_t_draft, .ref h_t_text, .int length_, .int at__v, .int error, .int errorOffset, .int hasCosts, .int hasLimit])), (h_t_text, .inl (cA 0, n_text, .inl text))]) rfl rfl ?_
        refine k_aload_n C 1 (pc := 76) dX5_takesWord_76 rfl rfl ?_
        refine k_iload_n C 3 (pc := 77) dX5_takesWord_77 rfl rfl ?_
        obtain ⟨hv_3, H⟩ := H
        refine k_eq (pc := 78) (st' := [.int (nI x3.toNatClampNeg), .ref (cA (100 + w1)), .int r_2]) rfl rfl (by rw [nI_vp hw1 hv_3]) ?_
        refine k_callPi C (pc := 78) [] (wc := []) rfl rfl (k_runK C (As := [.int (nI x3.toNatClampNeg)]) (rest := [.int r_2]) hw1 (conJ0_charAt_5068e l D cA w1 x3.toNatClampNeg hw1 (vp_lt hv_3)) ⟨k_cwB C tW_3_44 tW_3_41 tW_1_18 okJ0_charAt_5068e rfl rfl ⟨Nat.le_of_ble_eq_true rfl, Nat.le_of_ble_eq_true rfl⟩, C.w tW_3_42, C.w tW_3_43⟩ rfl rfl (Nat.le_of_ble_eq_true rfl) dX5_takesWord_78 ⟨Nat.le_of_ble_eq_true rfl, Nat.le_of_ble_eq_true rfl⟩) (fun _ _ h_ => by obtain ⟨rfl, _⟩ := h_; rfl) (fun r_ w1_ hw_ => ?_)
        obtain ⟨rfl, rfl⟩ := hw_
        refine k_eq (pc := 81) (ws' := [(h_t, .inr (5, [u_t_draft, .ref h_t_text, .int length_, .int at__v, .int error, .int errorOffset, .int hasCosts, .int hasLimit])), (h_t_text, .inl (cA 0, n_text, .inl text))]) setAll_nil rfl rfl ?_
        refine k_icmp_eq C (pc := 81) (tgt := 86) dX5_takesWord_81 (by decide) (fun c_81 => ?_) (fun c_81 => ?_)
        · have H := H.1 c_81
          refine k_iinc C (pc := 86) (k := 3) (v := x3 + (1 : Int32)) dX5_takesWord_86 rfl rfl (Nat.lt_of_lt_of_le (Nat.lt_succ_self _) (Nat.le_of_ble_eq_true rfl)) (lv' := [(3, .int (x3 + (1 : Int32))), (0, .ref h_t), (1, .ref (cA (100 + w1))), (2, .int x2)]) rfl ?_
          refine k_goto C (pc := 89) (tgt := 55) dX5_takesWord_89 (by decide) ?_
          refine k_lv (pc := 55) [1, 2, 3, 0] (lv' := [(0, .ref h_t), (1, .ref (cA (100 + w1))), (2, .int x2), (3, .int (x3 + (1 : Int32)))]) rfl ?_
          exact ih55 at__v x2 (x3 + (1 : Int32)) H
        · have H := H.2 c_81
          refine k_iconst C (pc := 84) (v := (0 : Int32)) dX5_takesWord_84 rfl ?_
          exact k_zret C (pc := 85) hr rfl dX5_takesWord_85 ⟨_, rfl, H⟩
  have B38 : ∀  (at__v : Int32) (x2 : Int32), wpX5_takesWord_b38 length_ n_text text w1 Post  at__v x2 → Kf p l e { frames := 4, cells := 0, slots := 0, locals := 86 } s m args below meth c D (va_A [(h_t, .inr (5, [u_t_draft, .ref h_t_text, .int length_, .int at_, .int error, .int errorOffset, .int hasCosts, .int hasLimit])), (h_t_text, .inl (cA 0, n_text, .inl text))] s.heap.size) 4 0 0 (MQ below (QC D [(h_t, .inr (5, [u_t_draft, .ref h_t_text, .int length_, .int at_, .int error, .int errorOffset, .int hasCosts, .int hasLimit])), (h_t_text, .inl (cA 0, n_text, .inl text))] s.heap.size (PI (fun r w1 => ∃ (at_' : Int32), w1 = [(h_t, .inr (5, [u_t_draft, .ref h_t_text, .int length_, .int (at_'), .int error, .int errorOffset, .int hasCosts, .int hasLimit])), (h_t_text, .inl (cA 0, n_text, .inl text))] ∧ Post r at_'))) args s 0 0 (va_A [(h_t, .inr (5, [u_t_draft, .ref h_t_text, .int length_, .int at_, .int error, .int errorOffset, .int hasCosts, .int hasLimit])), (h_t_text, .inl (cA 0, n_text, .inl text))] s.heap.size)) [(h_t, .inr (5, [u_t_draft, .ref h_t_text, .int length_, .int at__v, .int error, .int errorOffset, .int hasCosts, .int hasLimit])), (h_t_text, .inl (cA 0, n_text, .inl text))] 38 [(0, .ref h_t), (1, .ref (cA (100 + w1))), (2, .int x2)] [] := by
    intro  at__v x2 H
    refine k_iload_n C 2 (pc := 38) dX5_takesWord_38 rfl rfl ?_
    refine k_aload_n C 0 (pc := 39) dX5_takesWord_39 rfl rfl ?_
    refine k_get C (pc := 40) inW_X5 0 3 rfl rfl (Nat.lt_of_lt_of_le (Nat.lt_succ_self _) (Nat.le_of_ble_eq_true rfl)) (ref := "WidowWatch$Reader") tW_1_119 rfl rfl dX5_takesWord_40 ?_
    refine k_isub C (pc := 43) dX5_takesWord_43 ?_
    refine k_aload_n C 1 (pc := 44) dX5_takesWord_44 rfl rfl ?_
    refine k_callPi C (pc := 45) [] (wc := []) rfl rfl (k_runK C (As := []) (rest := [.int (x2 - at__v)]) hw1 (conJ0_length_8abf5 l D cA w1 hw1) ⟨k_cwB C tW_3_34 tW_3_31 tW_1_18 okJ0_length_8abf5 rfl rfl ⟨Nat.le_of_ble_eq_true rfl, Nat.le_of_ble_eq_true rfl⟩, C.w tW_3_32, C.w tW_3_33⟩ rfl rfl (Nat.le_of_ble_eq_true rfl) dX5_takesWord_45 ⟨Nat.le_of_ble_eq_true rfl, Nat.le_of_ble_eq_true rfl⟩) (fun _ _ h_ => by obtain ⟨rfl, _⟩ := h_; rfl) (fun r_ w1_ hw_ => ?_)
    obtain ⟨rfl, rfl⟩ := hw_
    refine k_eq (pc := 48) (ws' := [(h_t, .inr (5, [u_t_draft, .ref h_t_text, .int length_, .int at__v, .int error, .int errorOffset, .int hasCosts, .int hasLimit])), (h_t_text, .inl (cA 0, n_text, .inl text))]) setAll_nil rfl rfl ?_
    refine k_icmp_eq C (pc := 48) (tgt := 53) dX5_takesWord_48 (by decide) (fun c_48 => ?_) (fun c_48 => ?_)
    · have H := H.1 c_48
      refine k_iconst C (pc := 53) (v := (0 : Int32)) dX5_takesWord_53 rfl ?_
      refine k_istore_n C (pc := 54) dX5_takesWord_54 rfl (Nat.lt_of_lt_of_le (Nat.lt_succ_self _) (Nat.le_of_ble_eq_true rfl)) (lv' := [(3, .int (0 : Int32)), (0, .ref h_t), (1, .ref (cA (100 + w1))), (2, .int x2)]) rfl ?_
      obtain ⟨n_, H⟩ := H
      refine k_lv (pc := 55) [1, 2, 3, 0] (lv' := [(0, .ref h_t), (1, .ref (cA (100 + w1))), (2, .int x2), (3, .int (0 : Int32))]) rfl ?_
      exact B55  n_ at__v x2 (0 : Int32) H
    · have H := H.2 c_48
      refine k_iconst C (pc := 51) (v := (0 : Int32)) dX5_takesWord_51 rfl ?_
      exact k_zret C (pc := 52) hr rfl dX5_takesWord_52 ⟨_, rfl, H⟩
  have B10 : ∀  (n : Nat) (at__v : Int32) (x2 : Int32), wpX5_takesWord_L10 length_ n_text text w1 Post  n at__v x2 → Kf p l e { frames := 4, cells := 0, slots := 0, locals := 86 } s m args below meth c D (va_A [(h_t, .inr (5, [u_t_draft, .ref h_t_text, .int length_, .int at_, .int error, .int errorOffset, .int hasCosts, .int hasLimit])), (h_t_text, .inl (cA 0, n_text, .inl text))] s.heap.size) 4 0 0 (MQ below (QC D [(h_t, .inr (5, [u_t_draft, .ref h_t_text, .int length_, .int at_, .int error, .int errorOffset, .int hasCosts, .int hasLimit])), (h_t_text, .inl (cA 0, n_text, .inl text))] s.heap.size (PI (fun r w1 => ∃ (at_' : Int32), w1 = [(h_t, .inr (5, [u_t_draft, .ref h_t_text, .int length_, .int (at_'), .int error, .int errorOffset, .int hasCosts, .int hasLimit])), (h_t_text, .inl (cA 0, n_text, .inl text))] ∧ Post r at_'))) args s 0 0 (va_A [(h_t, .inr (5, [u_t_draft, .ref h_t_text, .int length_, .int at_, .int error, .int errorOffset, .int hasCosts, .int hasLimit])), (h_t_text, .inl (cA 0, n_text, .inl text))] s.heap.size)) [(h_t, .inr (5, [u_t_draft, .ref h_t_text, .int length_, .int at__v, .int error, .int errorOffset, .int hasCosts, .int hasLimit])), (h_t_text, .inl (cA 0, n_text, .inl text))] 10 [(0, .ref h_t), (1, .ref (cA (100 + w1))), (2, .int x2)] [] := by
    intro  n
    induction n with
    | zero =>
      intro at__v x2 H
      exact H.elim
    | succ n10 ih10 =>
      intro at__v x2 H
      refine k_iload_n C 2 (pc := 10) dX5_takesWord_10 rfl rfl ?_
      refine k_aload_n C 0 (pc := 11) dX5_takesWord_11 rfl rfl ?_
      refine k_get C (pc := 12) inW_X5 0 2 rfl rfl (Nat.lt_of_lt_of_le (Nat.lt_succ_self _) (Nat.le_of_ble_eq_true rfl)) (ref := "WidowWatch$Reader") tW_1_118 rfl rfl dX5_takesWord_12 ?_
      refine k_icmp_ge C (pc := 15) (tgt := 38) dX5_takesWord_15 (by decide) (fun c_15 => ?_) (fun c_15 => ?_)
      · have H := H.1 c_15
        refine k_lv (pc := 38) [0, 1, 2] (lv' := [(0, .ref h_t), (1, .ref (cA (100 + w1))), (2, .int x2)]) rfl ?_
        exact B38  at__v x2 H
      · have H := H.2 c_15
        refine k_aload_n C 0 (pc := 18) dX5_takesWord_18 rfl rfl ?_
        refine k_get C (pc := 19) inW_X5 0 1 rfl rfl (Nat.lt_of_lt_of_le (Nat.lt_succ_self _) (Nat.le_of_ble_eq_true rfl)) (ref := "WidowWatch$Reader") tW_1_117 rfl rfl dX5_takesWord_19 ?_
        refine k_iload_n C 2 (pc := 22) dX5_takesWord_22 rfl rfl ?_
        refine k_calli C (pc := 23) [1] [0] (wc := [(h_t_text, .inl (cA 0, n_text, .inl text))]) (wr := [(h_t, .inr (5, [u_t_draft, .ref h_t_text, .int length_, .int at__v, .int error, .int errorOffset, .int hasCosts, .int hasLimit]))]) rfl rfl rfl rfl (by decide) (k_runSN C (As := [.ref h_t_text, .int x2]) (rest := []) (conX6_get l D cA h_t_text n_text text x2  _ H) ⟨k_cwN C tW_2_46 (k_n12 C) tW_1_1 okX6_get rfl rfl ⟨Nat.le_of_ble_eq_true rfl, Nat.le_of_ble_eq_true rfl⟩, C.w tW_2_45, trivial⟩ rfl rfl (Nat.le_of_ble_eq_true rfl) dX5_takesWord_23 ⟨Nat.le_of_ble_eq_true rfl, Nat.le_of_ble_eq_true rfl⟩) (fun r_4 w1_ hw_ => ?_)
        obtain ⟨rfl, H⟩ := hw_
        refine k_ws [0, 1] (ws' := [(h_t, .inr (5, [u_t_draft, .ref h_t_text, .int length_, .int at__v, .int error, .int errorOffset, .int hasCosts, .int hasLimit])), (h_t_text, .inl (cA 0, n_text, .inl text))]) rfl rfl ?_
        refine k_calli C (pc := 26) [] [0, 1] (wc := []) (wr := [(h_t, .inr (5, [u_t_draft, .ref h_t_text, .int length_, .int at__v, .int error, .int errorOffset, .int hasCosts, .int hasLimit])), (h_t_text, .inl (cA 0, n_text, .inl text))]) rfl rfl rfl rfl (by decide) (k_runS C (As := [.int r_4]) (rest := []) (conX5_isLetter l D cA r_4  _ H) ⟨k_cwB C tW_3_30 tW_3_28 tW_1_4 okX5_isLetter rfl rfl ⟨Nat.le_of_ble_eq_true rfl, Nat.le_of_ble_eq_true rfl⟩, C.w tW_3_29⟩ rfl rfl (Nat.le_of_ble_eq_true rfl) dX5_takesWord_26 ⟨Nat.le_of_ble_eq_true rfl, Nat.le_of_ble_eq_true rfl⟩) (fun r_5 w1_ hw_ => ?_)
        obtain ⟨rfl, H⟩ := hw_
        refine k_ws [0, 1] (ws' := [(h_t, .inr (5, [u_t_draft, .ref h_t_text, .int length_, .int at__v, .int error, .int errorOffset, .int hasCosts, .int hasLimit])), (h_t_text, .inl (cA 0, n_text, .inl text))]) rfl rfl ?_
        refine k_if_eq C (pc := 29) (tgt := 38) dX5_takesWord_29 (by decide) (fun c_29 => ?_) (fun c_29 => ?_)
        · have H := H.1 c_29
          refine k_lv (pc := 38) [0, 1, 2] (lv' := [(0, .ref h_t), (1, .ref (cA (100 + w1))), (2, .int x2)]) rfl ?_
          exact B38  at__v x2 H
        · have H := H.2 c_29
          refine k_iinc C (pc := 32) (k := 2) (v := x2 + (1 : Int32)) dX5_takesWord_32 rfl rfl (Nat.lt_of_lt_of_le (Nat.lt_succ_self _) (Nat.le_of_ble_eq_true rfl)) (lv' := [(2, .int (x2 + (1 : Int32))), (0, .ref h_t), (1, .ref (cA (100 + w1)))]) rfl ?_
          refine k_goto C (pc := 35) (tgt := 10) dX5_takesWord_35 (by decide) ?_
          refine k_lv (pc := 10) [1, 2, 0] (lv' := [(0, .ref h_t), (1, .ref (cA (100 + w1))), (2, .int (x2 + (1 : Int32)))]) rfl ?_
          exact ih10 at__v (x2 + (1 : Int32)) H
  refine k_eq (ws' := [(h_t, .inr (5, [u_t_draft, .ref h_t_text, .int length_, .int at_, .int error, .int errorOffset, .int hasCosts, .int hasLimit])), (h_t_text, .inl (cA 0, n_text, .inl text))]) (lv' := [(0, .ref h_t), (1, .ref (cA (100 + w1)))]) (st' := []) rfl rfl rfl ?_
  refine k_aload_n C 0 (pc := 0) dX5_takesWord_0 rfl rfl ?_
  refine k_calli C (pc := 1) [0, 1] [] (wc := [(h_t, .inr (5, [u_t_draft, .ref h_t_text, .int length_, .int at_, .int error, .int errorOffset, .int hasCosts, .int hasLimit])), (h_t_text, .inl (cA 0, n_text, .inl text))]) (wr := []) rfl rfl rfl rfl (by decide) (k_runV C (As := []) (rest := []) (ci := 5) (q0 := 0) (conX5_nextByte l D cA h_t h_t_text u_t_draft length_ at_ error errorOffset hasCosts hasLimit n_text text  _ H) ⟨k_cwB C tW_3_26 tW_3_23 tW_1_4 okX5_nextByte rfl rfl ⟨Nat.le_of_ble_eq_true rfl, Nat.le_of_ble_eq_true rfl⟩, C.w tW_3_24, C.w tW_3_25⟩ rfl rfl rfl rfl rfl (Nat.le_of_ble_eq_true rfl) dX5_takesWord_1 ⟨Nat.le_of_ble_eq_true rfl, Nat.le_of_ble_eq_true rfl⟩) (fun r_1 w1_ hw_ => ?_)
  obtain ⟨at__1, rfl, H⟩ := hw_
  refine k_ws [0, 1] (ws' := [(h_t, .inr (5, [u_t_draft, .ref h_t_text, .int length_, .int at__1, .int error, .int errorOffset, .int hasCosts, .int hasLimit])), (h_t_text, .inl (cA 0, n_text, .inl text))]) rfl rfl ?_
  refine k_pop C (pc := 4) dX5_takesWord_4 rfl ?_
  refine k_aload_n C 0 (pc := 5) dX5_takesWord_5 rfl rfl ?_
  refine k_get C (pc := 6) inW_X5 0 3 rfl rfl (Nat.lt_of_lt_of_le (Nat.lt_succ_self _) (Nat.le_of_ble_eq_true rfl)) (ref := "WidowWatch$Reader") tW_1_119 rfl rfl dX5_takesWord_6 ?_
  refine k_istore_n C (pc := 9) dX5_takesWord_9 rfl (Nat.lt_of_lt_of_le (Nat.lt_succ_self _) (Nat.le_of_ble_eq_true rfl)) (lv' := [(2, .int at__1), (0, .ref h_t), (1, .ref (cA (100 + w1)))]) rfl ?_
  obtain ⟨n_, H⟩ := H
  refine k_lv (pc := 10) [1, 2, 0] (lv' := [(0, .ref h_t), (1, .ref (cA (100 + w1))), (2, .int at__1)]) rfl ?_
  exact B10  n_ at__1 at__1 H
/-! WidowWatch$Reader.takeNumber(II)I -/
theorem dX5_takeNumber_0 : decode cX5_takeNumber 0 = .ok (.aload_n 0, 1) := by decide +kernel
theorem dX5_takeNumber_1 : decode cX5_takeNumber 1 = .ok (.invokevirtual 48, 3) := by decide +kernel
theorem dX5_takeNumber_4 : decode cX5_takeNumber 4 = .ok (.istore_n 3, 1) := by decide +kernel
theorem dX5_takeNumber_5 : decode cX5_takeNumber 5 = .ok (.aload_n 0, 1) := by decide +kernel
theorem dX5_takeNumber_6 : decode cX5_takeNumber 6 = .ok (.getfield 26, 3) := by decide +kernel
theorem dX5_takeNumber_9 : decode cX5_takeNumber 9 = .ok (.istore 4, 2) := by decide +kernel
theorem dX5_takeNumber_11 : decode cX5_takeNumber 11 = .ok (.iload_n 3, 1) := by decide +kernel
theorem dX5_takeNumber_12 : decode cX5_takeNumber 12 = .ok (.invokestatic 114, 3) := by decide +kernel
theorem dX5_takeNumber_15 : decode cX5_takeNumber 15 = .ok (.ifCond .ne 13, 3) := by decide +kernel
theorem dX5_takeNumber_18 : decode cX5_takeNumber 18 = .ok (.aload_n 0, 1) := by decide +kernel
theorem dX5_takeNumber_19 : decode cX5_takeNumber 19 = .ok (.bipush (-2), 2) := by decide +kernel
theorem dX5_takeNumber_21 : decode cX5_takeNumber 21 = .ok (.iload 4, 2) := by decide +kernel
theorem dX5_takeNumber_23 : decode cX5_takeNumber 23 = .ok (.invokevirtual 61, 3) := by decide +kernel
theorem dX5_takeNumber_26 : decode cX5_takeNumber 26 = .ok (.iload_n 1, 1) := by decide +kernel
theorem dX5_takeNumber_27 : decode cX5_takeNumber 27 = .ok (.ireturn, 1) := by decide +kernel
theorem dX5_takeNumber_28 : decode cX5_takeNumber 28 = .ok (.iconst 0, 1) := by decide +kernel
theorem dX5_takeNumber_29 : decode cX5_takeNumber 29 = .ok (.istore 5, 2) := by decide +kernel
theorem dX5_takeNumber_31 : decode cX5_takeNumber 31 = .ok (.aload_n 0, 1) := by decide +kernel
theorem dX5_takeNumber_32 : decode cX5_takeNumber 32 = .ok (.getfield 26, 3) := by decide +kernel
theorem dX5_takeNumber_35 : decode cX5_takeNumber 35 = .ok (.aload_n 0, 1) := by decide +kernel
theorem dX5_takeNumber_36 : decode cX5_takeNumber 36 = .ok (.getfield 22, 3) := by decide +kernel
theorem dX5_takeNumber_39 : decode cX5_takeNumber 39 = .ok (.if_icmp .ge 60, 3) := by decide +kernel
theorem dX5_takeNumber_42 : decode cX5_takeNumber 42 = .ok (.aload_n 0, 1) := by decide +kernel
theorem dX5_takeNumber_43 : decode cX5_takeNumber 43 = .ok (.getfield 18, 3) := by decide +kernel
theorem dX5_takeNumber_46 : decode cX5_takeNumber 46 = .ok (.aload_n 0, 1) := by decide +kernel
theorem dX5_takeNumber_47 : decode cX5_takeNumber 47 = .ok (.getfield 26, 3) := by decide +kernel
theorem dX5_takeNumber_50 : decode cX5_takeNumber 50 = .ok (.invokestatic 124, 3) := by decide +kernel
theorem dX5_takeNumber_53 : decode cX5_takeNumber 53 = .ok (.invokestatic 114, 3) := by decide +kernel
theorem dX5_takeNumber_56 : decode cX5_takeNumber 56 = .ok (.ifCond .eq 43, 3) := by decide +kernel
theorem dX5_takeNumber_59 : decode cX5_takeNumber 59 = .ok (.ldc 139, 2) := by decide +kernel
theorem dX5_takeNumber_61 : decode cX5_takeNumber 61 = .ok (.bipush 10, 2) := by decide +kernel
theorem dX5_takeNumber_63 : decode cX5_takeNumber 63 = .ok (.iload 5, 2) := by decide +kernel
theorem dX5_takeNumber_65 : decode cX5_takeNumber 65 = .ok (.imul, 1) := by decide +kernel
theorem dX5_takeNumber_66 : decode cX5_takeNumber 66 = .ok (.aload_n 0, 1) := by decide +kernel
theorem dX5_takeNumber_67 : decode cX5_takeNumber 67 = .ok (.getfield 18, 3) := by decide +kernel
theorem dX5_takeNumber_70 : decode cX5_takeNumber 70 = .ok (.aload_n 0, 1) := by decide +kernel
theorem dX5_takeNumber_71 : decode cX5_takeNumber 71 = .ok (.getfield 26, 3) := by decide +kernel
theorem dX5_takeNumber_74 : decode cX5_takeNumber 74 = .ok (.invokestatic 124, 3) := by decide +kernel
theorem dX5_takeNumber_77 : decode cX5_takeNumber 77 = .ok (.iadd, 1) := by decide +kernel
theorem dX5_takeNumber_78 : decode cX5_takeNumber 78 = .ok (.bipush 48, 2) := by decide +kernel
theorem dX5_takeNumber_80 : decode cX5_takeNumber 80 = .ok (.isub, 1) := by decide +kernel
theorem dX5_takeNumber_81 : decode cX5_takeNumber 81 = .ok (.invokestatic 140, 3) := by decide +kernel
theorem dX5_takeNumber_84 : decode cX5_takeNumber 84 = .ok (.istore 5, 2) := by decide +kernel
theorem dX5_takeNumber_86 : decode cX5_takeNumber 86 = .ok (.aload_n 0, 1) := by decide +kernel
theorem dX5_takeNumber_87 : decode cX5_takeNumber 87 = .ok (.dup, 1) := by decide +kernel
theorem dX5_takeNumber_88 : decode cX5_takeNumber 88 = .ok (.getfield 26, 3) := by decide +kernel
theorem dX5_takeNumber_91 : decode cX5_takeNumber 91 = .ok (.iconst 1, 1) := by decide +kernel
theorem dX5_takeNumber_92 : decode cX5_takeNumber 92 = .ok (.iadd, 1) := by decide +kernel
theorem dX5_takeNumber_93 : decode cX5_takeNumber 93 = .ok (.putfield 26, 3) := by decide +kernel
theorem dX5_takeNumber_96 : decode cX5_takeNumber 96 = .ok (.goto (-65), 3) := by decide +kernel
theorem dX5_takeNumber_99 : decode cX5_takeNumber 99 = .ok (.iload 5, 2) := by decide +kernel
theorem dX5_takeNumber_101 : decode cX5_takeNumber 101 = .ok (.iload_n 1, 1) := by decide +kernel
theorem dX5_takeNumber_102 : decode cX5_takeNumber 102 = .ok (.if_icmp .lt 9, 3) := by decide +kernel
theorem dX5_takeNumber_105 : decode cX5_takeNumber 105 = .ok (.iload 5, 2) := by decide +kernel
theorem dX5_takeNumber_107 : decode cX5_takeNumber 107 = .ok (.iload_n 2, 1) := by decide +kernel
theorem dX5_takeNumber_108 : decode cX5_takeNumber 108 = .ok (.if_icmp .le 13, 3) := by decide +kernel
theorem dX5_takeNumber_111 : decode cX5_takeNumber 111 = .ok (.aload_n 0, 1) := by decide +kernel
theorem dX5_takeNumber_112 : decode cX5_takeNumber 112 = .ok (.bipush (-3), 2) := by decide +kernel
theorem dX5_takeNumber_114 : decode cX5_takeNumber 114 = .ok (.iload 4, 2) := by decide +kernel
theorem dX5_takeNumber_116 : decode cX5_takeNumber 116 = .ok (.invokevirtual 61, 3) := by decide +kernel
theorem dX5_takeNumber_119 : decode cX5_takeNumber 119 = .ok (.iload_n 1, 1) := by decide +kernel
theorem dX5_takeNumber_120 : decode cX5_takeNumber 120 = .ok (.ireturn, 1) := by decide +kernel
theorem dX5_takeNumber_121 : decode cX5_takeNumber 121 = .ok (.iload 5, 2) := by decide +kernel
theorem dX5_takeNumber_123 : decode cX5_takeNumber 123 = .ok (.ireturn, 1) := by decide +kernel
theorem okX5_takeNumber : okY yX5_takeNumber 2 := ⟨by decide +kernel, by decide +kernel, by decide +kernel⟩
def wpX5_takeNumber_b111 (length_ : Int32) (n_text : Nat) (text : Nat → Int32) (a1 : Int32) (a2 : Int32) (Post : Int32 → Int32 → Int32 → Int32 → Prop)  (at__v : Int32) (error_v : Int32) (errorOffset_v : Int32) (x4 : Int32) : Prop := wpX5_fail error_v errorOffset_v (-3 : Int32) x4 (fun error_3 errorOffset_3 => Post a1 at__v error_3 errorOffset_3)
def wpX5_takeNumber_b99 (length_ : Int32) (n_text : Nat) (text : Nat → Int32) (a1 : Int32) (a2 : Int32) (Post : Int32 → Int32 → Int32 → Int32 → Prop)  (at__v : Int32) (error_v : Int32) (errorOffset_v : Int32) (x4 : Int32) (x5 : Int32) : Prop := (x5 < a1 → wpX5_takeNumber_b111 length_ n_text text a1 a2 Post  at__v error_v errorOffset_v x4) ∧ (¬ x5 < a1 → (x5 ≤ a2 → Post x5 at__v error_v errorOffset_v) ∧ (¬ x5 ≤ a2 → wpX5_takeNumber_b111 length_ n_text text a1 a2 Post  at__v error_v errorOffset_v x4))
def wpX5_takeNumber_L31 (length_ : Int32) (n_text : Nat) (text : Nat → Int32) (a1 : Int32) (a2 : Int32) (Post : Int32 → Int32 → Int32 → Int32 → Prop)  : Nat → Int32 → Int32 → Int32 → Int32 → Int32 → Prop
  | 0 => fun _ _ _ _ _ => False
  | n31 + 1 => fun at__v error_v errorOffset_v x4 x5 => (length_ ≤ at__v → wpX5_takeNumber_b99 length_ n_text text a1 a2 Post  at__v error_v errorOffset_v x4 x5) ∧ (¬ length_ ≤ at__v → wpX6_get n_text text at__v (fun r_4 => wpX5_isDigit r_4 (fun r_5 => (r_5 = 0 → wpX5_takeNumber_b99 length_ n_text text a1 a2 Post  at__v error_v errorOffset_v x4 x5) ∧ (¬ r_5 = 0 → wpX6_get n_text text at__v (fun r_6 => (wpX5_takeNumber_L31 length_ n_text text a1 a2 Post  n31) (at__v + (1 : Int32)) error_v errorOffset_v x4 (if ((((10 : Int32) * x5) + r_6) - (48 : Int32)) < (100000 : Int32) then ((((10 : Int32) * x5) + r_6) - (48 : Int32)) else (100000 : Int32)))))))
def wpX5_takeNumber (length_ : Int32) (at_ : Int32) (error : Int32) (errorOffset : Int32) (n_text : Nat) (text : Nat → Int32) (a1 : Int32) (a2 : Int32) (Post : Int32 → Int32 → Int32 → Int32 → Prop) : Prop := wpX5_nextByte length_ at_ n_text text (fun r_1 at__1 => wpX5_isDigit r_1 (fun r_2 => (¬ r_2 = 0 → ∃ m_, wpX5_takeNumber_L31 length_ n_text text a1 a2 Post  m_ at__1 error errorOffset at__1 (0 : Int32)) ∧ (r_2 = 0 → wpX5_fail error errorOffset (-2 : Int32) at__1 (fun error_7 errorOffset_7 => Post a1 at__1 error_7 errorOffset_7))))
set_option maxHeartbeats 4000000 in
set_option maxRecDepth 100000 in
theorem conX5_takeNumber (l : Launch) (D : va_G) (cA : Nat → ClassId) (h_t h_t_text : Nat) (u_t_draft : Value) (length_ : Int32) (at_ : Int32) (error : Int32) (errorOffset : Int32) (hasCosts : Int32) (hasLimit : Int32) (n_text : Nat) (text : Nat → Int32) (a1 : Int32) (a2 : Int32) (Post : Int32 → Int32 → Int32 → Int32 → Prop) (H : wpX5_takeNumber length_ at_ error errorOffset n_text text a1 a2 Post) : Con l D cA yX5_takeNumber (wm yX5_takeNumber cX5_takeNumber 6 (some .int)) { frames := 2, cells := 0, slots := 0, locals := 41 } [(h_t, .inr (5, [u_t_draft, .ref h_t_text, .int length_, .int at_, .int error, .int errorOffset, .int hasCosts, .int hasLimit])), (h_t_text, .inl (cA 0, n_text, .inl text))] [.ref h_t, .int a1, .int a2] 0 0 (PI (fun r w1 => ∃ (at_' : Int32) (error' : Int32) (errorOffset' : Int32), w1 = [(h_t, .inr (5, [u_t_draft, .ref h_t_text, .int length_, .int (at_'), .int (error'), .int (errorOffset'), .int hasCosts, .int hasLimit])), (h_t_text, .inl (cA 0, n_text, .inl text))] ∧ Post r at_' error' errorOffset')) := by
  refine Con.of (by decide) (Nat.le_of_ble_eq_true rfl) ?_
  intro p e s m args below meth c C hr hini
  have B111 : ∀  (at__v : Int32) (error_v : Int32) (errorOffset_v : Int32) (x4 : Int32), wpX5_takeNumber_b111 length_ n_text text a1 a2 Post  at__v error_v errorOffset_v x4 → Kf p l e { frames := 2, cells := 0, slots := 0, locals := 41 } s m args below meth c D (va_A [(h_t, .inr (5, [u_t_draft, .ref h_t_text, .int length_, .int at_, .int error, .int errorOffset, .int hasCosts, .int hasLimit])), (h_t_text, .inl (cA 0, n_text, .inl text))] s.heap.size) 6 0 0 (MQ below (QC D [(h_t, .inr (5, [u_t_draft, .ref h_t_text, .int length_, .int at_, .int error, .int errorOffset, .int hasCosts, .int hasLimit])), (h_t_text, .inl (cA 0, n_text, .inl text))] s.heap.size (PI (fun r w1 => ∃ (at_' : Int32) (error' : Int32) (errorOffset' : Int32), w1 = [(h_t, .inr (5, [u_t_draft, .ref h_t_text, .int length_, .int (at_'), .int (error'), .int (errorOffset'), .int hasCosts, .int hasLimit])), (h_t_text, .inl (cA 0, n_text, .inl text))] ∧ Post r at_' error' errorOffset'))) args s 0 0 (va_A [(h_t, .inr (5, [u_t_draft, .ref h_t_text, .int length_, .int at_, .int error, .int errorOffset, .int hasCosts, .int hasLimit])), (h_t_text, .inl (cA 0, n_text, .inl text))] s.heap.size)) [(h_t, .inr (5, [u_t_draft, .ref h_t_text, .int length_, .int at__v, .int error_v, .int errorOffset_v, .int hasCosts, .int hasLimit])), (h_t_text, .inl (cA 0, n_text, .inl text))] 111 [(0, .ref h_t), (1, .int a1), (4, .int x4)] [] := by
    intro  at__v error_v errorOffset_v x4 H
    refine k_aload_n C 0 (pc := 111) dX5_takeNumber_111 rfl rfl ?_
    refine k_bipush C (pc := 112) (v := (-3 : Int32)) dX5_takeNumber_112 (by decide) ?_
    refine k_iload C 2 (pc := 114) dX5_takeNumber_114 rfl ?_
    refine k_callv C (pc := 116) [0] [1] (wc := [(h_t, .inr (5, [u_t_draft, .ref h_t_text, .int length_, .int at__v, .int error_v, .int errorOffset_v, .int hasCosts, .int hasLimit]))]) (wr := [(h_t_text, .inl (cA 0, n_text, .inl text))]) rfl rfl rfl rfl (by decide) (k_runV C (As := [.int (-3 : Int32), .int x4]) (rest := []) (ci := 5) (q0 := 0) (conX5_fail l D cA h_t u_t_draft (.ref h_t_text) length_ at__v error_v errorOffset_v hasCosts hasLimit (-3 : Int32) x4  _ H) ⟨k_cwB C tW_3_82 tW_3_79 tW_1_4 okX5_fail rfl rfl ⟨Nat.le_of_ble_eq_true rfl, Nat.le_of_ble_eq_true rfl⟩, C.w tW_3_80, C.w tW_3_81⟩ rfl rfl rfl rfl rfl (Nat.le_of_ble_eq_true rfl) dX5_takeNumber_116 ⟨Nat.le_of_ble_eq_true rfl, Nat.le_of_ble_eq_true rfl⟩) (fun w1_ hw_ => ?_)
    obtain ⟨error_3, errorOffset_3, rfl, H⟩ := hw_
    refine k_ws [1, 0] (ws' := [(h_t, .inr (5, [u_t_draft, .ref h_t_text, .int length_, .int at__v, .int error_3, .int errorOffset_3, .int hasCosts, .int hasLimit])), (h_t_text, .inl (cA 0, n_text, .inl text))]) rfl rfl ?_
    refine k_iload_n C 1 (pc := 119) dX5_takeNumber_119 rfl rfl ?_
    exact k_iret C (pc := 120) hr dX5_takeNumber_120 ⟨_, _, _, rfl, H⟩
  have B99 : ∀  (at__v : Int32) (error_v : Int32) (errorOffset_v : Int32) (x4 : Int32) (x5 : Int32), wpX5_takeNumber_b99 length_ n_text text a1 a2 Post  at__v error_v errorOffset_v x4 x5 → Kf p l e { frames := 2, cells := 0, slots := 0, locals := 41 } s m args below meth c D (va_A [(h_t, .inr (5, [u_t_draft, .ref h_t_text, .int length_, .int at_, .int error, .int errorOffset, .int hasCosts, .int hasLimit])), (h_t_text, .inl (cA 0, n_text, .inl text))] s.heap.size) 6 0 0 (MQ below (QC D [(h_t, .inr (5, [u_t_draft, .ref h_t_text, .int length_, .int at_, .int error, .int errorOffset, .int hasCosts, .int hasLimit])), (h_t_text, .inl (cA 0, n_text, .inl text))] s.heap.size (PI (fun r w1 => ∃ (at_' : Int32) (error' : Int32) (errorOffset' : Int32), w1 = [(h_t, .inr (5, [u_t_draft, .ref h_t_text, .int length_, .int (at_'), .int (error'), .int (errorOffset'), .int hasCosts, .int hasLimit])), (h_t_text, .inl (cA 0, n_text, .inl text))] ∧ Post r at_' error' errorOffset'))) args s 0 0 (va_A [(h_t, .inr (5, [u_t_draft, .ref h_t_text, .int length_, .int at_, .int error, .int errorOffset, .int hasCosts, .int hasLimit])), (h_t_text, .inl (cA 0, n_text, .inl text))] s.heap.size)) [(h_t, .inr (5, [u_t_draft, .ref h_t_text, .int length_, .int at__v, .int error_v, .int errorOffset_v, .int hasCosts, .int hasLimit])), (h_t_text, .inl (cA 0, n_text, .inl text))] 99 [(0, .ref h_t), (1, .int a1), (2, .int a2), (4, .int x4), (5, .int x5)] [] := by
    intro  at__v error_v errorOffset_v x4 x5 H
    refine k_iload C 4 (pc := 99) dX5_takeNumber_99 rfl ?_
    refine k_iload_n C 1 (pc := 101) dX5_takeNumber_101 rfl rfl ?_
    refine k_icmp_lt C (pc := 102) (tgt := 111) dX5_takeNumber_102 (by decide) (fun c_102 => ?_) (fun c_102 => ?_)
    · have H := H.1 c_102
      refine k_lv (pc := 111) [0, 1, 3] (lv' := [(0, .ref h_t), (1, .int a1), (4, .int x4)]) rfl ?_
      exact B111  at__v error_v errorOffset_v x4 H
    · have H := H.2 c_102
      refine k_iload C 4 (pc := 105) dX5_takeNumber_105 rfl ?_
      refine k_iload_n C 2 (pc := 107) dX5_takeNumber_107 rfl rfl ?_
      refine k_icmp_le C (pc := 108) (tgt := 121) dX5_takeNumber_108 (by decide) (fun c_108 => ?_) (fun c_108 => ?_)
      · have H := H.1 c_108
        refine k_iload C 4 (pc := 121) dX5_takeNumber_121 rfl ?_
        exact k_iret C (pc := 123) hr dX5_takeNumber_123 ⟨_, _, _, rfl, H⟩
      · have H := H.2 c_108
        refine k_lv (pc := 111) [0, 1, 3] (lv' := [(0, .ref h_t), (1, .int a1), (4, .int x4)]) rfl ?_
        exact B111  at__v error_v errorOffset_v x4 H
  have B31 : ∀  (n : Nat) (at__v : Int32) (error_v : Int32) (errorOffset_v : Int32) (x4 : Int32) (x5 : Int32), wpX5_takeNumber_L31 length_ n_text text a1 a2 Post  n at__v error_v errorOffset_v x4 x5 → Kf p l e { frames := 2, cells := 0, slots := 0, locals := 41 } s m args below meth c D (va_A [(h_t, .inr (5, [u_t_draft, .ref h_t_text, .int length_, .int at_, .int error, .int errorOffset, .int hasCosts, .int hasLimit])), (h_t_text, .inl (cA 0, n_text, .inl text))] s.heap.size) 6 0 0 (MQ below (QC D [(h_t, .inr (5, [u_t_draft, .ref h_t_text, .int length_, .int at_, .int error, .int errorOffset, .int hasCosts, .int hasLimit])), (h_t_text, .inl (cA 0, n_text, .inl text))] s.heap.size (PI (fun r w1 => ∃ (at_' : Int32) (error' : Int32) (errorOffset' : Int32), w1 = [(h_t, .inr (5, [u_t_draft, .ref h_t_text, .int length_, .int (at_'), .int (error'), .int (errorOffset'), .int hasCosts, .int hasLimit])), (h_t_text, .inl (cA 0, n_text, .inl text))] ∧ Post r at_' error' errorOffset'))) args s 0 0 (va_A [(h_t, .inr (5, [u_t_draft, .ref h_t_text, .int length_, .int at_, .int error, .int errorOffset, .int hasCosts, .int hasLimit])), (h_t_text, .inl (cA 0, n_text, .inl text))] s.heap.size)) [(h_t, .inr (5, [u_t_draft, .ref h_t_text, .int length_, .int at__v, .int error_v, .int errorOffset_v, .int hasCosts, .int hasLimit])), (h_t_text, .inl (cA 0, n_text, .inl text))] 31 [(0, .ref h_t), (1, .int a1), (2, .int a2), (4, .int x4), (5, .int x5)] [] := by
    intro  n
    induction n with
    | zero =>
      intro at__v error_v errorOffset_v x4 x5 H
      exact H.elim
    | succ n31 ih31 =>
      intro at__v error_v errorOffset_v x4 x5 H
      refine k_aload_n C 0 (pc := 31) dX5_takeNumber_31 rfl rfl ?_
      refine k_get C (pc := 32) inW_X5 0 3 rfl rfl (Nat.lt_of_lt_of_le (Nat.lt_succ_self _) (Nat.le_of_ble_eq_true rfl)) (ref := "WidowWatch$Reader") tW_1_119 rfl rfl dX5_takeNumber_32 ?_
      refine k_aload_n C 0 (pc := 35) dX5_takeNumber_35 rfl rfl ?_
      refine k_get C (pc := 36) inW_X5 0 2 rfl rfl (Nat.lt_of_lt_of_le (Nat.lt_succ_self _) (Nat.le_of_ble_eq_true rfl)) (ref := "WidowWatch$Reader") tW_1_118 rfl rfl dX5_takeNumber_36 ?_
      refine k_icmp_ge C (pc := 39) (tgt := 99) dX5_takeNumber_39 (by decide) (fun c_39 => ?_) (fun c_39 => ?_)
      · have H := H.1 c_39
        refine k_lv (pc := 99) [0, 1, 2, 3, 4] (lv' := [(0, .ref h_t), (1, .int a1), (2, .int a2), (4, .int x4), (5, .int x5)]) rfl ?_
        exact B99  at__v error_v errorOffset_v x4 x5 H
      · have H := H.2 c_39
        refine k_aload_n C 0 (pc := 42) dX5_takeNumber_42 rfl rfl ?_
        refine k_get C (pc := 43) inW_X5 0 1 rfl rfl (Nat.lt_of_lt_of_le (Nat.lt_succ_self _) (Nat.le_of_ble_eq_true rfl)) (ref := "WidowWatch$Reader") tW_1_117 rfl rfl dX5_takeNumber_43 ?_
        refine k_aload_n C 0 (pc := 46) dX5_takeNumber_46 rfl rfl ?_
        refine k_get C (pc := 47) inW_X5 0 3 rfl rfl (Nat.lt_of_lt_of_le (Nat.lt_succ_self _) (Nat.le_of_ble_eq_true rfl)) (ref := "WidowWatch$Reader") tW_1_119 rfl rfl dX5_takeNumber_47 ?_
        refine k_calli C (pc := 50) [1] [0] (wc := [(h_t_text, .inl (cA 0, n_text, .inl text))]) (wr := [(h_t, .inr (5, [u_t_draft, .ref h_t_text, .int length_, .int at__v, .int error_v, .int errorOffset_v, .int hasCosts, .int hasLimit]))]) rfl rfl rfl rfl (by decide) (k_runSN C (As := [.ref h_t_text, .int at__v]) (rest := []) (conX6_get l D cA h_t_text n_text text at__v  _ H) ⟨k_cwN C tW_2_46 (k_n12 C) tW_1_1 okX6_get rfl rfl ⟨Nat.le_of_ble_eq_true rfl, Nat.le_of_ble_eq_true rfl⟩, C.w tW_2_45, trivial⟩ rfl rfl (Nat.le_of_ble_eq_true rfl) dX5_takeNumber_50 ⟨Nat.le_of_ble_eq_true rfl, Nat.le_of_ble_eq_true rfl⟩) (fun r_4 w1_ hw_ => ?_)
        obtain ⟨rfl, H⟩ := hw_
        refine k_ws [0, 1] (ws' := [(h_t, .inr (5, [u_t_draft, .ref h_t_text, .int length_, .int at__v, .int error_v, .int errorOffset_v, .int hasCosts, .int hasLimit])), (h_t_text, .inl (cA 0, n_text, .inl text))]) rfl rfl ?_
        refine k_calli C (pc := 53) [] [0, 1] (wc := []) (wr := [(h_t, .inr (5, [u_t_draft, .ref h_t_text, .int length_, .int at__v, .int error_v, .int errorOffset_v, .int hasCosts, .int hasLimit])), (h_t_text, .inl (cA 0, n_text, .inl text))]) rfl rfl rfl rfl (by decide) (k_runS C (As := [.int r_4]) (rest := []) (conX5_isDigit l D cA r_4  _ H) ⟨k_cwB C tW_3_89 tW_3_87 tW_1_4 okX5_isDigit rfl rfl ⟨Nat.le_of_ble_eq_true rfl, Nat.le_of_ble_eq_true rfl⟩, C.w tW_3_88⟩ rfl rfl (Nat.le_of_ble_eq_true rfl) dX5_takeNumber_53 ⟨Nat.le_of_ble_eq_true rfl, Nat.le_of_ble_eq_true rfl⟩) (fun r_5 w1_ hw_ => ?_)
        obtain ⟨rfl, H⟩ := hw_
        refine k_ws [0, 1] (ws' := [(h_t, .inr (5, [u_t_draft, .ref h_t_text, .int length_, .int at__v, .int error_v, .int errorOffset_v, .int hasCosts, .int hasLimit])), (h_t_text, .inl (cA 0, n_text, .inl text))]) rfl rfl ?_
        refine k_if_eq C (pc := 56) (tgt := 99) dX5_takeNumber_56 (by decide) (fun c_56 => ?_) (fun c_56 => ?_)
        · have H := H.1 c_56
          refine k_lv (pc := 99) [0, 1, 2, 3, 4] (lv' := [(0, .ref h_t), (1, .int a1), (2, .int a2), (4, .int x4), (5, .int x5)]) rfl ?_
          exact B99  at__v error_v errorOffset_v x4 x5 H
        · have H := H.2 c_56
          refine k_ldc C (pc := 59) (v := (100000 : Int32)) tW_3_90 dX5_takeNumber_59 ?_
          refine k_bipush C (pc := 61) (v := (10 : Int32)) dX5_takeNumber_61 (by decide) ?_
          refine k_iload C 4 (pc := 63) dX5_takeNumber_63 rfl ?_
          refine k_imul C (pc := 65) dX5_takeNumber_65 ?_
          refine k_aload_n C 0 (pc := 66) dX5_takeNumber_66 rfl rfl ?_
          refine k_get C (pc := 67) inW_X5 0 1 rfl rfl (Nat.lt_of_lt_of_le (Nat.lt_succ_self _) (Nat.le_of_ble_eq_true rfl)) (ref := "WidowWatch$Reader") tW_1_117 rfl rfl dX5_takeNumber_67 ?_
          refine k_aload_n C 0 (pc := 70) dX5_takeNumber_70 rfl rfl ?_
          refine k_get C (pc := 71) inW_X5 0 3 rfl rfl (Nat.lt_of_lt_of_le (Nat.lt_succ_self _) (Nat.le_of_ble_eq_true rfl)) (ref := "WidowWatch$Reader") tW_1_119 rfl rfl dX5_takeNumber_71 ?_
          refine k_calli C (pc := 74) [1] [0] (wc := [(h_t_text, .inl (cA 0, n_text, .inl text))]) (wr := [(h_t, .inr (5, [u_t_draft, .ref h_t_text, .int length_, .int at__v, .int error_v, .int errorOffset_v, .int hasCosts, .int hasLimit]))]) rfl rfl rfl rfl (by decide) (k_runSN C (As := [.ref h_t_text, .int at__v]) (rest := [.int ((10 : Int32) * x5), .int (100000 : Int32)]) (conX6_get l D cA h_t_text n_text text at__v  _ H) ⟨k_cwN C tW_2_46 (k_n12 C) tW_1_1 okX6_get rfl rfl ⟨Nat.le_of_ble_eq_true rfl, Nat.le_of_ble_eq_true rfl⟩, C.w tW_2_45, trivial⟩ rfl rfl (Nat.le_of_ble_eq_true rfl) dX5_takeNumber_74 ⟨Nat.le_of_ble_eq_true rfl, Nat.le_of_ble_eq_true rfl⟩) (fun r_6 w1_ hw_ => ?_)
          obtain ⟨rfl, H⟩ := hw_
          refine k_ws [0, 1] (ws' := [(h_t, .inr (5, [u_t_draft, .ref h_t_text, .int length_, .int at__v, .int error_v, .int errorOffset_v, .int hasCosts, .int hasLimit])), (h_t_text, .inl (cA 0, n_text, .inl text))]) rfl rfl ?_
          refine k_iadd C (pc := 77) dX5_takeNumber_77 ?_
          refine k_bipush C (pc := 78) (v := (48 : Int32)) dX5_takeNumber_78 (by decide) ?_
          refine k_isub C (pc := 80) dX5_takeNumber_80 ?_
          refine k_mmin C (pc := 81) tW_3_91 tW_3_92 tW_1_16 tW_3_93 (Nat.le_of_ble_eq_true rfl) (Nat.le_of_ble_eq_true rfl) (Nat.zero_le _) (Nat.zero_le _) dX5_takeNumber_81 ?_
          refine k_istore C (pc := 84) dX5_takeNumber_84 (Nat.lt_of_lt_of_le (Nat.lt_succ_self _) (Nat.le_of_ble_eq_true rfl)) (lv' := [(5, .int (if ((((10 : Int32) * x5) + r_6) - (48 : Int32)) < (100000 : Int32) then ((((10 : Int32) * x5) + r_6) - (48 : Int32)) else (100000 : Int32))), (0, .ref h_t), (1, .int a1), (2, .int a2), (4, .int x4)]) rfl ?_
          refine k_aload_n C 1 (pc := 86) dX5_takeNumber_86 rfl rfl ?_
          refine k_dup C (pc := 87) dX5_takeNumber_87 rfl ?_
          refine k_get C (pc := 88) inW_X5 0 3 rfl rfl (Nat.lt_of_lt_of_le (Nat.lt_succ_self _) (Nat.le_of_ble_eq_true rfl)) (ref := "WidowWatch$Reader") tW_1_119 rfl rfl dX5_takeNumber_88 ?_
          refine k_iconst C (pc := 91) (v := (1 : Int32)) dX5_takeNumber_91 rfl ?_
          refine k_iadd C (pc := 92) dX5_takeNumber_92 ?_
          refine k_put C (pc := 93) inW_X5 tyX5 tyX5_ok nmX5 0 3 rfl rfl (Nat.lt_of_lt_of_le (Nat.lt_succ_self _) (Nat.le_of_ble_eq_true rfl)) (ref := "WidowWatch$Reader") tW_1_119 rfl rfl rfl (ty := .int) rfl rfl (Nat.lt_of_lt_of_le (Nat.lt_succ_self _) (Nat.le_of_ble_eq_true rfl)) (fs' := [u_t_draft, .ref h_t_text, .int length_, .int (at__v + (1 : Int32)), .int error_v, .int errorOffset_v, .int hasCosts, .int hasLimit]) rfl (ws' := [(h_t, .inr (5, [u_t_draft, .ref h_t_text, .int length_, .int (at__v + (1 : Int32)), .int error_v, .int errorOffset_v, .int hasCosts, .int hasLimit])), (h_t_text, .inl (cA 0, n_text, .inl text))]) rfl dX5_takeNumber_93 ?_
          refine k_goto C (pc := 96) (tgt := 31) dX5_takeNumber_96 (by decide) ?_
          refine k_lv (pc := 31) [1, 2, 3, 4, 0] (lv' := [(0, .ref h_t), (1, .int a1), (2, .int a2), (4, .int x4), (5, .int (if ((((10 : Int32) * x5) + r_6) - (48 : Int32)) < (100000 : Int32) then ((((10 : Int32) * x5) + r_6) - (48 : Int32)) else (100000 : Int32)))]) rfl ?_
          exact ih31 (at__v + (1 : Int32)) error_v errorOffset_v x4 (if ((((10 : Int32) * x5) + r_6) - (48 : Int32)) < (100000 : Int32) then ((((10 : Int32) * x5) + r_6) - (48 : Int32)) else (100000 : Int32)) H
  refine k_eq (ws' := [(h_t, .inr (5, [u_t_draft, .ref h_t_text, .int length_, .int at_, .int error, .int errorOffset, .int hasCosts, .int hasLimit])), (h_t_text, .inl (cA 0, n_text, .inl text))]) (lv' := [(0, .ref h_t), (1, .int a1), (2, .int a2)]) (st' := []) rfl rfl rfl ?_
  refine k_aload_n C 0 (pc := 0) dX5_takeNumber_0 rfl rfl ?_
  refine k_calli C (pc := 1) [0, 1] [] (wc := [(h_t, .inr (5, [u_t_draft, .ref h_t_text, .int length_, .int at_, .int error, .int errorOffset, .int hasCosts, .int hasLimit])), (h_t_text, .inl (cA 0, n_text, .inl text))]) (wr := []) rfl rfl rfl rfl (by decide) (k_runV C (As := []) (rest := []) (ci := 5) (q0 := 0) (conX5_nextByte l D cA h_t h_t_text u_t_draft length_ at_ error errorOffset hasCosts hasLimit n_text text  _ H) ⟨k_cwB C tW_3_26 tW_3_23 tW_1_4 okX5_nextByte rfl rfl ⟨Nat.le_of_ble_eq_true rfl, Nat.le_of_ble_eq_true rfl⟩, C.w tW_3_24, C.w tW_3_25⟩ rfl rfl rfl rfl rfl (Nat.le_of_ble_eq_true rfl) dX5_takeNumber_1 ⟨Nat.le_of_ble_eq_true rfl, Nat.le_of_ble_eq_true rfl⟩) (fun r_1 w1_ hw_ => ?_)
  obtain ⟨at__1, rfl, H⟩ := hw_
  refine k_ws [0, 1] (ws' := [(h_t, .inr (5, [u_t_draft, .ref h_t_text, .int length_, .int at__1, .int error, .int errorOffset, .int hasCosts, .int hasLimit])), (h_t_text, .inl (cA 0, n_text, .inl text))]) rfl rfl ?_
  refine k_istore_n C (pc := 4) dX5_takeNumber_4 rfl (Nat.lt_of_lt_of_le (Nat.lt_succ_self _) (Nat.le_of_ble_eq_true rfl)) (lv' := [(3, .int r_1), (0, .ref h_t), (1, .int a1), (2, .int a2)]) rfl ?_
  refine k_aload_n C 1 (pc := 5) dX5_takeNumber_5 rfl rfl ?_
  refine k_get C (pc := 6) inW_X5 0 3 rfl rfl (Nat.lt_of_lt_of_le (Nat.lt_succ_self _) (Nat.le_of_ble_eq_true rfl)) (ref := "WidowWatch$Reader") tW_1_119 rfl rfl dX5_takeNumber_6 ?_
  refine k_istore C (pc := 9) dX5_takeNumber_9 (Nat.lt_of_lt_of_le (Nat.lt_succ_self _) (Nat.le_of_ble_eq_true rfl)) (lv' := [(4, .int at__1), (3, .int r_1), (0, .ref h_t), (1, .int a1), (2, .int a2)]) rfl ?_
  refine k_iload_n C 1 (pc := 11) dX5_takeNumber_11 rfl rfl ?_
  refine k_calli C (pc := 12) [] [0, 1] (wc := []) (wr := [(h_t, .inr (5, [u_t_draft, .ref h_t_text, .int length_, .int at__1, .int error, .int errorOffset, .int hasCosts, .int hasLimit])), (h_t_text, .inl (cA 0, n_text, .inl text))]) rfl rfl rfl rfl (by decide) (k_runS C (As := [.int r_1]) (rest := []) (conX5_isDigit l D cA r_1  _ H) ⟨k_cwB C tW_3_89 tW_3_87 tW_1_4 okX5_isDigit rfl rfl ⟨Nat.le_of_ble_eq_true rfl, Nat.le_of_ble_eq_true rfl⟩, C.w tW_3_88⟩ rfl rfl (Nat.le_of_ble_eq_true rfl) dX5_takeNumber_12 ⟨Nat.le_of_ble_eq_true rfl, Nat.le_of_ble_eq_true rfl⟩) (fun r_2 w1_ hw_ => ?_)
  obtain ⟨rfl, H⟩ := hw_
  refine k_ws [0, 1] (ws' := [(h_t, .inr (5, [u_t_draft, .ref h_t_text, .int length_, .int at__1, .int error, .int errorOffset, .int hasCosts, .int hasLimit])), (h_t_text, .inl (cA 0, n_text, .inl text))]) rfl rfl ?_
  refine k_if_ne C (pc := 15) (tgt := 28) dX5_takeNumber_15 (by decide) (fun c_15 => ?_) (fun c_15 => ?_)
  · have H := H.1 c_15
    refine k_iconst C (pc := 28) (v := (0 : Int32)) dX5_takeNumber_28 rfl ?_
    refine k_istore C (pc := 29) dX5_takeNumber_29 (Nat.lt_of_lt_of_le (Nat.lt_succ_self _) (Nat.le_of_ble_eq_true rfl)) (lv' := [(5, .int (0 : Int32)), (4, .int at__1), (3, .int r_1), (0, .ref h_t), (1, .int a1), (2, .int a2)]) rfl ?_
    obtain ⟨n_, H⟩ := H
    refine k_lv (pc := 31) [3, 4, 5, 1, 0] (lv' := [(0, .ref h_t), (1, .int a1), (2, .int a2), (4, .int at__1), (5, .int (0 : Int32))]) rfl ?_
    exact B31  n_ at__1 error errorOffset at__1 (0 : Int32) H
  · have H := H.2 c_15
    refine k_aload_n C 2 (pc := 18) dX5_takeNumber_18 rfl rfl ?_
    refine k_bipush C (pc := 19) (v := (-2 : Int32)) dX5_takeNumber_19 (by decide) ?_
    refine k_iload C 0 (pc := 21) dX5_takeNumber_21 rfl ?_
    refine k_callv C (pc := 23) [0] [1] (wc := [(h_t, .inr (5, [u_t_draft, .ref h_t_text, .int length_, .int at__1, .int error, .int errorOffset, .int hasCosts, .int hasLimit]))]) (wr := [(h_t_text, .inl (cA 0, n_text, .inl text))]) rfl rfl rfl rfl (by decide) (k_runV C (As := [.int (-2 : Int32), .int at__1]) (rest := []) (ci := 5) (q0 := 0) (conX5_fail l D cA h_t u_t_draft (.ref h_t_text) length_ at__1 error errorOffset hasCosts hasLimit (-2 : Int32) at__1  _ H) ⟨k_cwB C tW_3_82 tW_3_79 tW_1_4 okX5_fail rfl rfl ⟨Nat.le_of_ble_eq_true rfl, Nat.le_of_ble_eq_true rfl⟩, C.w tW_3_80, C.w tW_3_81⟩ rfl rfl rfl rfl rfl (Nat.le_of_ble_eq_true rfl) dX5_takeNumber_23 ⟨Nat.le_of_ble_eq_true rfl, Nat.le_of_ble_eq_true rfl⟩) (fun w1_ hw_ => ?_)
    obtain ⟨error_7, errorOffset_7, rfl, H⟩ := hw_
    refine k_ws [1, 0] (ws' := [(h_t, .inr (5, [u_t_draft, .ref h_t_text, .int length_, .int at__1, .int error_7, .int errorOffset_7, .int hasCosts, .int hasLimit])), (h_t_text, .inl (cA 0, n_text, .inl text))]) rfl rfl ?_
    refine k_iload_n C 3 (pc := 26) dX5_takeNumber_26 rfl rfl ?_
    exact k_iret C (pc := 27) hr dX5_takeNumber_27 ⟨_, _, _, rfl, H⟩
/-! WidowWatch$Reader.takeSemicolon()V -/
theorem dX5_takeSemicolon_0 : decode cX5_takeSemicolon 0 = .ok (.aload_n 0, 1) := by decide +kernel
theorem dX5_takeSemicolon_1 : decode cX5_takeSemicolon 1 = .ok (.invokevirtual 48, 3) := by decide +kernel
theorem dX5_takeSemicolon_4 : decode cX5_takeSemicolon 4 = .ok (.bipush 59, 2) := by decide +kernel
theorem dX5_takeSemicolon_6 : decode cX5_takeSemicolon 6 = .ok (.if_icmp .ne 16, 3) := by decide +kernel
theorem dX5_takeSemicolon_9 : decode cX5_takeSemicolon 9 = .ok (.aload_n 0, 1) := by decide +kernel
theorem dX5_takeSemicolon_10 : decode cX5_takeSemicolon 10 = .ok (.dup, 1) := by decide +kernel
theorem dX5_takeSemicolon_11 : decode cX5_takeSemicolon 11 = .ok (.getfield 26, 3) := by decide +kernel
theorem dX5_takeSemicolon_14 : decode cX5_takeSemicolon 14 = .ok (.iconst 1, 1) := by decide +kernel
theorem dX5_takeSemicolon_15 : decode cX5_takeSemicolon 15 = .ok (.iadd, 1) := by decide +kernel
theorem dX5_takeSemicolon_16 : decode cX5_takeSemicolon 16 = .ok (.putfield 26, 3) := by decide +kernel
theorem dX5_takeSemicolon_19 : decode cX5_takeSemicolon 19 = .ok (.goto 13, 3) := by decide +kernel
theorem dX5_takeSemicolon_22 : decode cX5_takeSemicolon 22 = .ok (.aload_n 0, 1) := by decide +kernel
theorem dX5_takeSemicolon_23 : decode cX5_takeSemicolon 23 = .ok (.bipush (-2), 2) := by decide +kernel
theorem dX5_takeSemicolon_25 : decode cX5_takeSemicolon 25 = .ok (.aload_n 0, 1) := by decide +kernel
theorem dX5_takeSemicolon_26 : decode cX5_takeSemicolon 26 = .ok (.getfield 26, 3) := by decide +kernel
theorem dX5_takeSemicolon_29 : decode cX5_takeSemicolon 29 = .ok (.invokevirtual 61, 3) := by decide +kernel
theorem dX5_takeSemicolon_32 : decode cX5_takeSemicolon 32 = .ok (.return_, 1) := by decide +kernel
theorem okX5_takeSemicolon : okY yX5_takeSemicolon 0 := ⟨by decide +kernel, by decide +kernel, by decide +kernel⟩
def wpX5_takeSemicolon (length_ : Int32) (at_ : Int32) (error : Int32) (errorOffset : Int32) (n_text : Nat) (text : Nat → Int32) (Post : Int32 → Int32 → Int32 → Prop) : Prop := wpX5_nextByte length_ at_ n_text text (fun r_1 at__1 => (¬ r_1 = (59 : Int32) → wpX5_fail error errorOffset (-2 : Int32) at__1 (fun error_2 errorOffset_2 => Post at__1 error_2 errorOffset_2)) ∧ (r_1 = (59 : Int32) → Post (at__1 + (1 : Int32)) error errorOffset))
set_option maxHeartbeats 4000000 in
set_option maxRecDepth 100000 in
theorem conX5_takeSemicolon (l : Launch) (D : va_G) (cA : Nat → ClassId) (h_t h_t_text : Nat) (u_t_draft : Value) (length_ : Int32) (at_ : Int32) (error : Int32) (errorOffset : Int32) (hasCosts : Int32) (hasLimit : Int32) (n_text : Nat) (text : Nat → Int32) (Post : Int32 → Int32 → Int32 → Prop) (H : wpX5_takeSemicolon length_ at_ error errorOffset n_text text Post) : Con l D cA yX5_takeSemicolon (wm yX5_takeSemicolon cX5_takeSemicolon 1 none) { frames := 2, cells := 0, slots := 0, locals := 41 } [(h_t, .inr (5, [u_t_draft, .ref h_t_text, .int length_, .int at_, .int error, .int errorOffset, .int hasCosts, .int hasLimit])), (h_t_text, .inl (cA 0, n_text, .inl text))] [.ref h_t] 0 0 (PV (fun w1 => ∃ (at_' : Int32) (error' : Int32) (errorOffset' : Int32), w1 = [(h_t, .inr (5, [u_t_draft, .ref h_t_text, .int length_, .int (at_'), .int (error'), .int (errorOffset'), .int hasCosts, .int hasLimit])), (h_t_text, .inl (cA 0, n_text, .inl text))] ∧ Post at_' error' errorOffset')) := by
  refine Con.of (by decide) (Nat.le_of_ble_eq_true rfl) ?_
  intro p e s m args below meth c C hr hini
  refine k_eq (ws' := [(h_t, .inr (5, [u_t_draft, .ref h_t_text, .int length_, .int at_, .int error, .int errorOffset, .int hasCosts, .int hasLimit])), (h_t_text, .inl (cA 0, n_text, .inl text))]) (lv' := [(0, .ref h_t)]) (st' := []) rfl rfl rfl ?_
  refine k_aload_n C 0 (pc := 0) dX5_takeSemicolon_0 rfl rfl ?_
  refine k_calli C (pc := 1) [0, 1] [] (wc := [(h_t, .inr (5, [u_t_draft, .ref h_t_text, .int length_, .int at_, .int error, .int errorOffset, .int hasCosts, .int hasLimit])), (h_t_text, .inl (cA 0, n_text, .inl text))]) (wr := []) rfl rfl rfl rfl (by decide) (k_runV C (As := []) (rest := []) (ci := 5) (q0 := 0) (conX5_nextByte l D cA h_t h_t_text u_t_draft length_ at_ error errorOffset hasCosts hasLimit n_text text  _ H) ⟨k_cwB C tW_3_26 tW_3_23 tW_1_4 okX5_nextByte rfl rfl ⟨Nat.le_of_ble_eq_true rfl, Nat.le_of_ble_eq_true rfl⟩, C.w tW_3_24, C.w tW_3_25⟩ rfl rfl rfl rfl rfl (Nat.le_of_ble_eq_true rfl) dX5_takeSemicolon_1 ⟨Nat.le_of_ble_eq_true rfl, Nat.le_of_ble_eq_true rfl⟩) (fun r_1 w1_ hw_ => ?_)
  obtain ⟨at__1, rfl, H⟩ := hw_
  refine k_ws [0, 1] (ws' := [(h_t, .inr (5, [u_t_draft, .ref h_t_text, .int length_, .int at__1, .int error, .int errorOffset, .int hasCosts, .int hasLimit])), (h_t_text, .inl (cA 0, n_text, .inl text))]) rfl rfl ?_
  refine k_bipush C (pc := 4) (v := (59 : Int32)) dX5_takeSemicolon_4 (by decide) ?_
  refine k_icmp_ne C (pc := 6) (tgt := 22) dX5_takeSemicolon_6 (by decide) (fun c_6 => ?_) (fun c_6 => ?_)
  · have H := H.1 c_6
    refine k_aload_n C 0 (pc := 22) dX5_takeSemicolon_22 rfl rfl ?_
    refine k_bipush C (pc := 23) (v := (-2 : Int32)) dX5_takeSemicolon_23 (by decide) ?_
    refine k_aload_n C 0 (pc := 25) dX5_takeSemicolon_25 rfl rfl ?_
    refine k_get C (pc := 26) inW_X5 0 3 rfl rfl (Nat.lt_of_lt_of_le (Nat.lt_succ_self _) (Nat.le_of_ble_eq_true rfl)) (ref := "WidowWatch$Reader") tW_1_119 rfl rfl dX5_takeSemicolon_26 ?_
    refine k_callv C (pc := 29) [0] [1] (wc := [(h_t, .inr (5, [u_t_draft, .ref h_t_text, .int length_, .int at__1, .int error, .int errorOffset, .int hasCosts, .int hasLimit]))]) (wr := [(h_t_text, .inl (cA 0, n_text, .inl text))]) rfl rfl rfl rfl (by decide) (k_runV C (As := [.int (-2 : Int32), .int at__1]) (rest := []) (ci := 5) (q0 := 0) (conX5_fail l D cA h_t u_t_draft (.ref h_t_text) length_ at__1 error errorOffset hasCosts hasLimit (-2 : Int32) at__1  _ H) ⟨k_cwB C tW_3_82 tW_3_79 tW_1_4 okX5_fail rfl rfl ⟨Nat.le_of_ble_eq_true rfl, Nat.le_of_ble_eq_true rfl⟩, C.w tW_3_80, C.w tW_3_81⟩ rfl rfl rfl rfl rfl (Nat.le_of_ble_eq_true rfl) dX5_takeSemicolon_29 ⟨Nat.le_of_ble_eq_true rfl, Nat.le_of_ble_eq_true rfl⟩) (fun w1_ hw_ => ?_)
    obtain ⟨error_2, errorOffset_2, rfl, H⟩ := hw_
    refine k_ws [1, 0] (ws' := [(h_t, .inr (5, [u_t_draft, .ref h_t_text, .int length_, .int at__1, .int error_2, .int errorOffset_2, .int hasCosts, .int hasLimit])), (h_t_text, .inl (cA 0, n_text, .inl text))]) rfl rfl ?_
    exact k_vret C (pc := 32) hr dX5_takeSemicolon_32 ⟨_, _, _, rfl, H⟩
  · have H := H.2 c_6
    refine k_aload_n C 0 (pc := 9) dX5_takeSemicolon_9 rfl rfl ?_
    refine k_dup C (pc := 10) dX5_takeSemicolon_10 rfl ?_
    refine k_get C (pc := 11) inW_X5 0 3 rfl rfl (Nat.lt_of_lt_of_le (Nat.lt_succ_self _) (Nat.le_of_ble_eq_true rfl)) (ref := "WidowWatch$Reader") tW_1_119 rfl rfl dX5_takeSemicolon_11 ?_
    refine k_iconst C (pc := 14) (v := (1 : Int32)) dX5_takeSemicolon_14 rfl ?_
    refine k_iadd C (pc := 15) dX5_takeSemicolon_15 ?_
    refine k_put C (pc := 16) inW_X5 tyX5 tyX5_ok nmX5 0 3 rfl rfl (Nat.lt_of_lt_of_le (Nat.lt_succ_self _) (Nat.le_of_ble_eq_true rfl)) (ref := "WidowWatch$Reader") tW_1_119 rfl rfl rfl (ty := .int) rfl rfl (Nat.lt_of_lt_of_le (Nat.lt_succ_self _) (Nat.le_of_ble_eq_true rfl)) (fs' := [u_t_draft, .ref h_t_text, .int length_, .int (at__1 + (1 : Int32)), .int error, .int errorOffset, .int hasCosts, .int hasLimit]) rfl (ws' := [(h_t, .inr (5, [u_t_draft, .ref h_t_text, .int length_, .int (at__1 + (1 : Int32)), .int error, .int errorOffset, .int hasCosts, .int hasLimit])), (h_t_text, .inl (cA 0, n_text, .inl text))]) rfl dX5_takeSemicolon_16 ?_
    refine k_goto C (pc := 19) (tgt := 32) dX5_takeSemicolon_19 (by decide) ?_
    exact k_vret C (pc := 32) hr dX5_takeSemicolon_32 ⟨_, _, _, rfl, H⟩
