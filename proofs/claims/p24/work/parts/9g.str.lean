theorem XW_6_169 : Cond.sameMethod "java/lang/AbstractStringBuilder" "java/lang/AbstractStringBuilder" "append" "(Ljava/lang/String;)Ljava/lang/AbstractStringBuilder;" ∈ W0 := W0_6 (i := 169) rfl rfl
theorem XW_5_87 : Cond.superclass "java/lang/StringBuilder" "java/lang/AbstractStringBuilder" ∈ W0 := W0_5 (i := 87) rfl rfl
theorem XW_5_209 : Cond.sameMethod "java/lang/AbstractStringBuilder" "java/lang/AbstractStringBuilder" "length" "()I" ∈ W0 := W0_5 (i := 209) rfl rfl
/-! java/lang/AbstractStringBuilder.<init>(I)V -/
theorem dJ5_init_d00df_0 : decode cJ5_init_d00df 0 = .ok (.aload_n 0, 1) := by decide +kernel
theorem dJ5_init_d00df_1 : decode cJ5_init_d00df 1 = .ok (.invokespecial 3, 3) := by decide +kernel
theorem dJ5_init_d00df_4 : decode cJ5_init_d00df 4 = .ok (.getstatic 18, 3) := by decide +kernel
theorem dJ5_init_d00df_7 : decode cJ5_init_d00df 7 = .ok (.ifCond .eq 18, 3) := by decide +kernel
theorem dJ5_init_d00df_10 : decode cJ5_init_d00df 10 = .ok (.aload_n 0, 1) := by decide +kernel
theorem dJ5_init_d00df_11 : decode cJ5_init_d00df 11 = .ok (.iload_n 1, 1) := by decide +kernel
theorem dJ5_init_d00df_12 : decode cJ5_init_d00df 12 = .ok (.newarray .byte, 2) := by decide +kernel
theorem dJ5_init_d00df_14 : decode cJ5_init_d00df 14 = .ok (.putfield 15, 3) := by decide +kernel
theorem dJ5_init_d00df_17 : decode cJ5_init_d00df 17 = .ok (.aload_n 0, 1) := by decide +kernel
theorem dJ5_init_d00df_18 : decode cJ5_init_d00df 18 = .ok (.iconst 0, 1) := by decide +kernel
theorem dJ5_init_d00df_19 : decode cJ5_init_d00df 19 = .ok (.putfield 22, 3) := by decide +kernel
theorem dJ5_init_d00df_22 : decode cJ5_init_d00df 22 = .ok (.goto 16, 3) := by decide +kernel
theorem dJ5_init_d00df_25 : decode cJ5_init_d00df 25 = .ok (.aload_n 0, 1) := by decide +kernel
theorem dJ5_init_d00df_26 : decode cJ5_init_d00df 26 = .ok (.iload_n 1, 1) := by decide +kernel
theorem dJ5_init_d00df_27 : decode cJ5_init_d00df 27 = .ok (.invokestatic 26, 3) := by decide +kernel
theorem dJ5_init_d00df_30 : decode cJ5_init_d00df 30 = .ok (.putfield 15, 3) := by decide +kernel
theorem dJ5_init_d00df_33 : decode cJ5_init_d00df 33 = .ok (.aload_n 0, 1) := by decide +kernel
theorem dJ5_init_d00df_34 : decode cJ5_init_d00df 34 = .ok (.iconst 1, 1) := by decide +kernel
theorem dJ5_init_d00df_35 : decode cJ5_init_d00df 35 = .ok (.putfield 22, 3) := by decide +kernel
theorem dJ5_init_d00df_38 : decode cJ5_init_d00df 38 = .ok (.return_, 1) := by decide +kernel
theorem okJ5_init_d00df : okY yJ5_init_d00df 1 := ⟨by decide +kernel, by decide +kernel, by decide +kernel⟩
def wpJ5_init_d00df (cB : Nat) (mu : Mu) (v0 : Nat) (v1 : Int32) (Post : Mu → Prop) : Prop := ∃ n1, v1 = nI n1 ∧ n1 ≤ 1000 ∧ 0 + (1 + n1 / 16) ≤ cB ∧ ∀ a1, frM mu a1 → ∀ mu2, mu2 = sT mu a1 (n1, fun _ => 0) → ∃ x3, mG mu2 v0 = some x3 ∧ ∀ mu4, mu4 = sG mu2 v0 (some a1, x3.2.1, x3.2.2.1, x3.2.2.2) → ∃ x5, mG mu4 v0 = some x5 ∧ ∀ mu6, mu6 = sG mu4 v0 (x5.1, (0 : Int32), x5.2.2.1, x5.2.2.2) → (0 + (1 + n1 / 16)) ≤ cB ∧ Post mu6
set_option maxHeartbeats 4000000 in
set_option maxRecDepth 100000 in
theorem conJ5_init_d00df (l : Launch) (D : va_G) (cA : Nat → ClassId) (cB : Nat) (mu : Mu) (v0 : Nat) (v1 : Int32) (Post : Mu → Prop)  (H : wpJ5_init_d00df cB mu v0 v1 Post) {w0 ws0 : va_W} (hR : LR cA w0 ws0 mu) : ConN l D cA yJ5_init_d00df (wm yJ5_init_d00df cJ5_init_d00df 2 none) { frames := 1, cells := cB, slots := 16 * cB, locals := 20 } ws0 [.ref v0, .int v1] cB (16 * cB) (PV (fun w1 => ∃ m1, LR cA w0 w1 m1 ∧ Post m1)) := by
  refine ConN.of (by decide) (Nat.le_of_ble_eq_true rfl) ?_
  intro p e s m args below meth c C hF hr hini
  refine k_eq (ws' := ws0) (lv' := [(0, .ref v0), (1, .int v1)]) (st' := []) rfl rfl rfl ?_
  have H : ∃ n1, v1 = nI n1 ∧ n1 ≤ 1000 ∧ 0 + (1 + n1 / 16) ≤ cB ∧ ∀ a1, frM mu a1 → ∀ mu2, mu2 = sT mu a1 (n1, fun _ => 0) → ∃ x3, mG mu2 v0 = some x3 ∧ ∀ mu4, mu4 = sG mu2 v0 (some a1, x3.2.1, x3.2.2.1, x3.2.2.2) → ∃ x5, mG mu4 v0 = some x5 ∧ ∀ mu6, mu6 = sG mu4 v0 (x5.1, (0 : Int32), x5.2.2.1, x5.2.2.2) → (0 + (1 + n1 / 16)) ≤ cB ∧ Post mu6 := H
  refine k_widen (k := 0) (n := 16 * 0) (Nat.le_refl _) (Nat.le_refl _) ?_
  refine k_aload_n C 0 (pc := 0) dJ5_init_d00df_0 rfl rfl ?_
  refine k_objInit C (pc := 1) tW_5_66 (Nat.le_of_ble_eq_true rfl) (Nat.le_of_ble_eq_true rfl) (Nat.le_of_ble_eq_true rfl) dJ5_init_d00df_1 ?_
  refine k_gets C (pc := 4) (v := .int 1) C.2.1.2.2.2.2.2.1 tW_5_67 rfl dJ5_init_d00df_4 ?_
  refine k_if_eq C (pc := 7) (tgt := 25) dJ5_init_d00df_7 (by decide) (fun c_ => absurd c_ (by decide)) (fun _ => ?_)
  refine k_aload_n C 0 (pc := 10) dJ5_init_d00df_10 rfl rfl ?_
  refine k_iload_n C 1 (pc := 11) dJ5_init_d00df_11 rfl rfl ?_
  obtain ⟨n1, hk_, hn_, hc_, H⟩ := H
  refine k_eq (pc := 12) (st' := [.int (nI n1), .ref v0]) rfl rfl (by rw [hk_]) ?_
  refine l_newT C hR (u := 0) (pc := 12) hn_ hc_ (Nat.mul_le_mul_left 16 hc_) dJ5_init_d00df_12 (fun a1 w1 hf_ hR => ?_)
  have H := H a1 hf_
  obtain ⟨mu2, hm2⟩ : ∃ m_, m_ = sT mu a1 (n1, fun _ => 0) := ⟨_, rfl⟩
  rw [← hm2] at hR
  have H := H mu2 hm2
  obtain ⟨x3, hx3, H⟩ := H
  refine l_putG C hR (pc := 14) hx3 0 (Nat.lt_of_lt_of_le (Nat.lt_succ_self _) (Nat.le_of_ble_eq_true rfl)) (ref := "java/lang/AbstractStringBuilder") tW_5_75 rfl rfl  rfl rfl rfl (x1 := ((some a1, x3.2.1, x3.2.2.1, x3.2.2.2))) rfl dJ5_init_d00df_14 (fun w1 hR => ?_)
  obtain ⟨mu4, hm4⟩ : ∃ m_, m_ = sG mu2 v0 (some a1, x3.2.1, x3.2.2.1, x3.2.2.2) := ⟨_, rfl⟩
  rw [← hm4] at hR
  have H := H mu4 hm4
  refine k_aload_n C 0 (pc := 17) dJ5_init_d00df_17 rfl rfl ?_
  refine k_iconst C (pc := 18) (v := (0 : Int32)) dJ5_init_d00df_18 rfl ?_
  obtain ⟨x5, hx5, H⟩ := H
  refine l_putG C hR (pc := 19) hx5 1 (Nat.lt_of_lt_of_le (Nat.lt_succ_self _) (Nat.le_of_ble_eq_true rfl)) (ref := "java/lang/AbstractStringBuilder") tW_5_76 rfl rfl  (ty := .byte) rfl rfl rfl (x1 := ((x5.1, (0 : Int32), x5.2.2.1, x5.2.2.2))) rfl dJ5_init_d00df_19 (fun w1 hR => ?_)
  obtain ⟨mu6, hm6⟩ : ∃ m_, m_ = sG mu4 v0 (x5.1, (0 : Int32), x5.2.2.1, x5.2.2.2) := ⟨_, rfl⟩
  rw [← hm6] at hR
  have H := H mu6 hm6
  refine k_goto C (pc := 22) (tgt := 38) dJ5_init_d00df_22 (by decide) ?_
  obtain ⟨hc_, H⟩ := H
  refine k_widen (k := cB) (n := 16 * cB) hc_ (Nat.mul_le_mul_left 16 hc_) ?_
  exact k_vret C (pc := 38) hr dJ5_init_d00df_38 ⟨mu6, hR, H⟩
/-! java/lang/StringBuilder.<init>()V -/
theorem dJ4_init_da8c8_0 : decode cJ4_init_da8c8 0 = .ok (.aload_n 0, 1) := by decide +kernel
theorem dJ4_init_da8c8_1 : decode cJ4_init_da8c8 1 = .ok (.bipush 16, 2) := by decide +kernel
theorem dJ4_init_da8c8_3 : decode cJ4_init_da8c8 3 = .ok (.invokespecial 1, 3) := by decide +kernel
theorem dJ4_init_da8c8_6 : decode cJ4_init_da8c8 6 = .ok (.return_, 1) := by decide +kernel
theorem okJ4_init_da8c8 : okY yJ4_init_da8c8 0 := ⟨by decide +kernel, by decide +kernel, by decide +kernel⟩
def wpJ4_init_da8c8 (cB : Nat) (mu : Mu) (v0 : Nat) (Post : Mu → Prop) : Prop := ∃ q2, 0 + q2 ≤ cB ∧ wpJ5_init_d00df q2 mu v0 (16 : Int32) (fun mu3 => (0 + q2) ≤ cB ∧ Post mu3)
set_option maxHeartbeats 4000000 in
set_option maxRecDepth 100000 in
theorem conJ4_init_da8c8 (l : Launch) (D : va_G) (cA : Nat → ClassId) (cB : Nat) (mu : Mu) (v0 : Nat) (Post : Mu → Prop)  (H : wpJ4_init_da8c8 cB mu v0 Post) {w0 ws0 : va_W} (hR : LR cA w0 ws0 mu) : ConN l D cA yJ4_init_da8c8 (wm yJ4_init_da8c8 cJ4_init_da8c8 1 none) { frames := 2, cells := cB, slots := 16 * cB, locals := 41 } ws0 [.ref v0] cB (16 * cB) (PV (fun w1 => ∃ m1, LR cA w0 w1 m1 ∧ Post m1)) := by
  refine ConN.of (by decide) (Nat.le_of_ble_eq_true rfl) ?_
  intro p e s m args below meth c C hF hr hini
  refine k_eq (ws' := ws0) (lv' := [(0, .ref v0)]) (st' := []) rfl rfl rfl ?_
  have H : ∃ q2, 0 + q2 ≤ cB ∧ wpJ5_init_d00df q2 mu v0 (16 : Int32) (fun mu3 => (0 + q2) ≤ cB ∧ Post mu3) := H
  refine k_widen (k := 0) (n := 16 * 0) (Nat.le_refl _) (Nat.le_refl _) ?_
  refine k_aload_n C 0 (pc := 0) dJ4_init_da8c8_0 rfl rfl ?_
  refine k_bipush C (pc := 1) (v := (16 : Int32)) dJ4_init_da8c8_1 (by decide) ?_
  obtain ⟨q2, hc_, H⟩ := H
  refine k_callAv C (pc := 3) (k_runIC C hF (As := [.int (16 : Int32)]) (rest := []) (conJ5_init_d00df l D cA q2 mu v0 (16 : Int32) _  H hR) ⟨k_cwB C tW_5_65 tW_5_63 tW_1_23 okJ5_init_d00df rfl rfl ⟨Nat.le_of_ble_eq_true rfl, Nat.le_of_ble_eq_true rfl⟩, rfl, C.w tW_5_64⟩ rfl rfl (Nat.le_of_ble_eq_true rfl) dJ4_init_da8c8_3 ⟨hc_, by show 16 * (0) + 16 * q2 ≤ 16 * cB; omega⟩) (fun w1 hw_ => ?_)
  obtain ⟨mu3, hR, H⟩ := hw_
  refine k_sl ?_
  obtain ⟨hc_, H⟩ := H
  refine k_widen (k := cB) (n := 16 * cB) hc_ (Nat.mul_le_mul_left 16 hc_) ?_
  exact k_vret C (pc := 6) hr dJ4_init_da8c8_6 ⟨mu3, hR, H⟩
/-! java/lang/AbstractStringBuilder.ensureCapacityInternal(I)V -/
theorem dJ5_ensureCapacityInternal_d00df_0 : decode cJ5_ensureCapacityInternal_d00df 0 = .ok (.aload_n 0, 1) := by decide +kernel
theorem dJ5_ensureCapacityInternal_d00df_1 : decode cJ5_ensureCapacityInternal_d00df 1 = .ok (.getfield 15, 3) := by decide +kernel
theorem dJ5_ensureCapacityInternal_d00df_4 : decode cJ5_ensureCapacityInternal_d00df 4 = .ok (.arraylength, 1) := by decide +kernel
theorem dJ5_ensureCapacityInternal_d00df_5 : decode cJ5_ensureCapacityInternal_d00df 5 = .ok (.aload_n 0, 1) := by decide +kernel
theorem dJ5_ensureCapacityInternal_d00df_6 : decode cJ5_ensureCapacityInternal_d00df 6 = .ok (.getfield 22, 3) := by decide +kernel
theorem dJ5_ensureCapacityInternal_d00df_9 : decode cJ5_ensureCapacityInternal_d00df 9 = .ok (.ishr, 1) := by decide +kernel
theorem dJ5_ensureCapacityInternal_d00df_10 : decode cJ5_ensureCapacityInternal_d00df 10 = .ok (.istore_n 2, 1) := by decide +kernel
theorem dJ5_ensureCapacityInternal_d00df_11 : decode cJ5_ensureCapacityInternal_d00df 11 = .ok (.iload_n 1, 1) := by decide +kernel
theorem dJ5_ensureCapacityInternal_d00df_12 : decode cJ5_ensureCapacityInternal_d00df 12 = .ok (.iload_n 2, 1) := by decide +kernel
theorem dJ5_ensureCapacityInternal_d00df_13 : decode cJ5_ensureCapacityInternal_d00df 13 = .ok (.isub, 1) := by decide +kernel
theorem dJ5_ensureCapacityInternal_d00df_14 : decode cJ5_ensureCapacityInternal_d00df 14 = .ok (.ifCond .le 24, 3) := by decide +kernel
theorem dJ5_ensureCapacityInternal_d00df_17 : decode cJ5_ensureCapacityInternal_d00df 17 = .ok (.aload_n 0, 1) := by decide +kernel
theorem dJ5_ensureCapacityInternal_d00df_18 : decode cJ5_ensureCapacityInternal_d00df 18 = .ok (.aload_n 0, 1) := by decide +kernel
theorem dJ5_ensureCapacityInternal_d00df_19 : decode cJ5_ensureCapacityInternal_d00df 19 = .ok (.getfield 15, 3) := by decide +kernel
theorem dJ5_ensureCapacityInternal_d00df_22 : decode cJ5_ensureCapacityInternal_d00df 22 = .ok (.aload_n 0, 1) := by decide +kernel
theorem dJ5_ensureCapacityInternal_d00df_23 : decode cJ5_ensureCapacityInternal_d00df 23 = .ok (.iload_n 1, 1) := by decide +kernel
theorem dJ5_ensureCapacityInternal_d00df_24 : decode cJ5_ensureCapacityInternal_d00df 24 = .ok (.invokevirtual 104, 3) := by decide +kernel
theorem dJ5_ensureCapacityInternal_d00df_27 : decode cJ5_ensureCapacityInternal_d00df 27 = .ok (.aload_n 0, 1) := by decide +kernel
theorem dJ5_ensureCapacityInternal_d00df_28 : decode cJ5_ensureCapacityInternal_d00df 28 = .ok (.getfield 22, 3) := by decide +kernel
theorem dJ5_ensureCapacityInternal_d00df_31 : decode cJ5_ensureCapacityInternal_d00df 31 = .ok (.ishl, 1) := by decide +kernel
theorem dJ5_ensureCapacityInternal_d00df_32 : decode cJ5_ensureCapacityInternal_d00df 32 = .ok (.invokestatic 108, 3) := by decide +kernel
theorem dJ5_ensureCapacityInternal_d00df_35 : decode cJ5_ensureCapacityInternal_d00df 35 = .ok (.putfield 15, 3) := by decide +kernel
theorem dJ5_ensureCapacityInternal_d00df_38 : decode cJ5_ensureCapacityInternal_d00df 38 = .ok (.return_, 1) := by decide +kernel
theorem okJ5_ensureCapacityInternal_d00df : okY yJ5_ensureCapacityInternal_d00df 1 := ⟨by decide +kernel, by decide +kernel, by decide +kernel⟩
def wpJ5_ensureCapacityInternal_d00df (mu : Mu) (v0 : Nat) (v1 : Int32) (Post : Prop) : Prop := ∃ x1, mG mu v0 = some x1 ∧ ∃ a1, x1.1 = some a1 ∧ ∃ n2 f2, mT mu a1 = some (n2, f2) ∧ ∃ x3, mG mu v0 = some x3 ∧ ((v1 - ((nI n2) >>> (x3.2.1 &&& 31))) ≤ 0 → Post) ∧ (¬ (v1 - ((nI n2) >>> (x3.2.1 &&& 31))) ≤ 0 → False)
set_option maxHeartbeats 4000000 in
set_option maxRecDepth 100000 in
theorem conJ5_ensureCapacityInternal_d00df (l : Launch) (D : va_G) (cA : Nat → ClassId) (mu : Mu) (v0 : Nat) (v1 : Int32) (Post : Prop)  (H : wpJ5_ensureCapacityInternal_d00df mu v0 v1 Post) {w0 ws0 : va_W} (hR : LR cA w0 ws0 mu) : ConN l D cA yJ5_ensureCapacityInternal_d00df (wm yJ5_ensureCapacityInternal_d00df cJ5_ensureCapacityInternal_d00df 3 none) { frames := 0, cells := 0, slots := 0, locals := 0 } ws0 [.ref v0, .int v1] 0 0 (PV (fun w1 => w1 = ws0 ∧ Post)) := by
  refine ConN.of (by decide) (Nat.le_of_ble_eq_true rfl) ?_
  intro p e s m args below meth c C hF hr hini
  refine k_eq (ws' := ws0) (lv' := [(0, .ref v0), (1, .int v1)]) (st' := []) rfl rfl rfl ?_
  have H : ∃ x1, mG mu v0 = some x1 ∧ ∃ a1, x1.1 = some a1 ∧ ∃ n2 f2, mT mu a1 = some (n2, f2) ∧ ∃ x3, mG mu v0 = some x3 ∧ ((v1 - ((nI n2) >>> (x3.2.1 &&& 31))) ≤ 0 → Post) ∧ (¬ (v1 - ((nI n2) >>> (x3.2.1 &&& 31))) ≤ 0 → False) := H
  refine k_aload_n C 0 (pc := 0) dJ5_ensureCapacityInternal_d00df_0 rfl rfl ?_
  obtain ⟨x1, hx1, H⟩ := H
  obtain ⟨a1, ha1, H⟩ := H
  refine l_getG C hR (pc := 1) hx1 0 (Nat.lt_of_lt_of_le (Nat.lt_succ_self _) (Nat.le_of_ble_eq_true rfl)) (ref := "java/lang/AbstractStringBuilder") tW_5_75 rfl (v := .ref a1) (by show some (va_rf x1.1) = _; rw [ha1]; rfl) dJ5_ensureCapacityInternal_d00df_1 ?_
  obtain ⟨n2, f2, hx_, H⟩ := H
  refine l_alenT C hR (pc := 4) hx_ dJ5_ensureCapacityInternal_d00df_4 ?_
  refine k_aload_n C 0 (pc := 5) dJ5_ensureCapacityInternal_d00df_5 rfl rfl ?_
  obtain ⟨x3, hx3, H⟩ := H
  refine l_getG C hR (pc := 6) hx3 1 (Nat.lt_of_lt_of_le (Nat.lt_succ_self _) (Nat.le_of_ble_eq_true rfl)) (ref := "java/lang/AbstractStringBuilder") tW_5_76 rfl (v := .int x3.2.1) rfl dJ5_ensureCapacityInternal_d00df_6 ?_
  refine k_ishr C (pc := 9) dJ5_ensureCapacityInternal_d00df_9 ?_
  refine k_istore_n C (pc := 10) dJ5_ensureCapacityInternal_d00df_10 rfl (Nat.lt_of_lt_of_le (Nat.lt_succ_self _) (Nat.le_of_ble_eq_true rfl)) (lv' := [(2, .int ((nI n2) >>> (x3.2.1 &&& 31))), (0, .ref v0), (1, .int v1)]) rfl ?_
  refine k_iload_n C 2 (pc := 11) dJ5_ensureCapacityInternal_d00df_11 rfl rfl ?_
  refine k_iload_n C 0 (pc := 12) dJ5_ensureCapacityInternal_d00df_12 rfl rfl ?_
  refine k_isub C (pc := 13) dJ5_ensureCapacityInternal_d00df_13 ?_
  refine k_if_le C (pc := 14) (tgt := 38) dJ5_ensureCapacityInternal_d00df_14 (by decide) (fun c_14 => ?_) (fun c_14 => ?_)
  · have H := H.1 c_14
    exact k_vret C (pc := 38) hr dJ5_ensureCapacityInternal_d00df_38 ⟨rfl, H⟩
  · have H := H.2 c_14
    exact H.elim
/-! java/lang/AbstractStringBuilder.inflateIfNeededFor(Ljava/lang/String;)V -/
theorem dJ5_inflateIfNeededFor_a7421_0 : decode cJ5_inflateIfNeededFor_a7421 0 = .ok (.getstatic 18, 3) := by decide +kernel
theorem dJ5_inflateIfNeededFor_a7421_3 : decode cJ5_inflateIfNeededFor_a7421 3 = .ok (.ifCond .eq 18, 3) := by decide +kernel
theorem dJ5_inflateIfNeededFor_a7421_6 : decode cJ5_inflateIfNeededFor_a7421 6 = .ok (.aload_n 0, 1) := by decide +kernel
theorem dJ5_inflateIfNeededFor_a7421_7 : decode cJ5_inflateIfNeededFor_a7421 7 = .ok (.getfield 22, 3) := by decide +kernel
theorem dJ5_inflateIfNeededFor_a7421_10 : decode cJ5_inflateIfNeededFor_a7421 10 = .ok (.aload_n 1, 1) := by decide +kernel
theorem dJ5_inflateIfNeededFor_a7421_11 : decode cJ5_inflateIfNeededFor_a7421 11 = .ok (.invokevirtual 40, 3) := by decide +kernel
theorem dJ5_inflateIfNeededFor_a7421_14 : decode cJ5_inflateIfNeededFor_a7421 14 = .ok (.if_icmp .eq 7, 3) := by decide +kernel
theorem dJ5_inflateIfNeededFor_a7421_17 : decode cJ5_inflateIfNeededFor_a7421 17 = .ok (.aload_n 0, 1) := by decide +kernel
theorem dJ5_inflateIfNeededFor_a7421_18 : decode cJ5_inflateIfNeededFor_a7421 18 = .ok (.invokevirtual 195, 3) := by decide +kernel
theorem dJ5_inflateIfNeededFor_a7421_21 : decode cJ5_inflateIfNeededFor_a7421 21 = .ok (.return_, 1) := by decide +kernel
theorem okJ5_inflateIfNeededFor_a7421 : okY yJ5_inflateIfNeededFor_a7421 1 := ⟨by decide +kernel, by decide +kernel, by decide +kernel⟩
def wpJ5_inflateIfNeededFor_a7421_K (mu : Mu) (v0 : Nat) (v1 : Nat) (Post : Prop) : Prop := ∃ x1, mG mu v0 = some x1 ∧ (x1.2.1 = (0 : Int32) → Post) ∧ (¬ x1.2.1 = (0 : Int32) → False)
set_option maxHeartbeats 4000000 in
set_option maxRecDepth 100000 in
theorem conJ5_inflateIfNeededFor_a7421_K (l : Launch) (D : va_G) (cA : Nat → ClassId) (mu : Mu) (v0 : Nat) (v1 : Nat) (Post : Prop) (hw1 : v1 < 10) (H : wpJ5_inflateIfNeededFor_a7421_K mu v0 v1 Post) {w0 ws0 : va_W} (hR : LR cA w0 ws0 mu) : ConN l D cA yJ5_inflateIfNeededFor_a7421 (wm yJ5_inflateIfNeededFor_a7421 cJ5_inflateIfNeededFor_a7421 2 none) { frames := 1, cells := 0, slots := 0, locals := 20 } ws0 [.ref v0, .ref (cA (100 + v1))] 0 0 (PV (fun w1 => w1 = ws0 ∧ Post)) := by
  refine ConN.of (by decide) (Nat.le_of_ble_eq_true rfl) ?_
  intro p e s m args below meth c C hF hr hini
  refine k_eq (ws' := ws0) (lv' := [(0, .ref v0), (1, .ref (cA (100 + v1)))]) (st' := []) rfl rfl rfl ?_
  have H : ∃ x1, mG mu v0 = some x1 ∧ (x1.2.1 = (0 : Int32) → Post) ∧ (¬ x1.2.1 = (0 : Int32) → False) := H
  refine k_gets C (pc := 0) (v := .int 1) C.2.1.2.2.2.2.2.1 tW_5_67 rfl dJ5_inflateIfNeededFor_a7421_0 ?_
  refine k_if_eq C (pc := 3) (tgt := 21) dJ5_inflateIfNeededFor_a7421_3 (by decide) (fun c_ => absurd c_ (by decide)) (fun _ => ?_)
  refine k_aload_n C 0 (pc := 6) dJ5_inflateIfNeededFor_a7421_6 rfl rfl ?_
  obtain ⟨x1, hx1, H⟩ := H
  refine l_getG C hR (pc := 7) hx1 1 (Nat.lt_of_lt_of_le (Nat.lt_succ_self _) (Nat.le_of_ble_eq_true rfl)) (ref := "java/lang/AbstractStringBuilder") tW_5_76 rfl (v := .int x1.2.1) rfl dJ5_inflateIfNeededFor_a7421_7 ?_
  refine k_aload_n C 1 (pc := 10) dJ5_inflateIfNeededFor_a7421_10 rfl rfl ?_
  refine k_callPi C (pc := 11) [] (wc := []) rfl rfl (k_runK C (As := []) (rest := [.int x1.2.1]) hw1 (conJ0_coder_7d493 l D cA v1 hw1) ⟨k_cwB C tW_3_38 tW_5_161 tW_1_18 okJ0_coder_7d493 rfl rfl ⟨Nat.le_of_ble_eq_true rfl, Nat.le_of_ble_eq_true rfl⟩, C.w tW_3_36, C.w tW_3_37⟩ rfl rfl (Nat.le_of_ble_eq_true rfl) dJ5_inflateIfNeededFor_a7421_11 ⟨Nat.le_of_ble_eq_true rfl, Nat.le_of_ble_eq_true rfl⟩) (fun _ _ h_ => by obtain ⟨rfl, _⟩ := h_; rfl) (fun r_ w1_ hw_ => ?_)
  obtain ⟨rfl, rfl⟩ := hw_
  refine k_eq (pc := 14) setAll_nil rfl rfl ?_
  refine k_icmp_eq C (pc := 14) (tgt := 21) dJ5_inflateIfNeededFor_a7421_14 (by decide) (fun c_14 => ?_) (fun c_14 => ?_)
  · have H := H.1 c_14
    exact k_vret C (pc := 21) hr dJ5_inflateIfNeededFor_a7421_21 ⟨rfl, H⟩
  · have H := H.2 c_14
    exact H.elim
/-! java/lang/String.getBytes([BIB)V -/
theorem dJ0_getBytes_840e7_0 : decode cJ0_getBytes_840e7 0 = .ok (.aload_n 0, 1) := by decide +kernel
theorem dJ0_getBytes_840e7_1 : decode cJ0_getBytes_840e7 1 = .ok (.invokevirtual 335, 3) := by decide +kernel
theorem dJ0_getBytes_840e7_4 : decode cJ0_getBytes_840e7 4 = .ok (.iload_n 3, 1) := by decide +kernel
theorem dJ0_getBytes_840e7_5 : decode cJ0_getBytes_840e7 5 = .ok (.if_icmp .ne 23, 3) := by decide +kernel
theorem dJ0_getBytes_840e7_8 : decode cJ0_getBytes_840e7 8 = .ok (.aload_n 0, 1) := by decide +kernel
theorem dJ0_getBytes_840e7_9 : decode cJ0_getBytes_840e7 9 = .ok (.getfield 9, 3) := by decide +kernel
theorem dJ0_getBytes_840e7_12 : decode cJ0_getBytes_840e7 12 = .ok (.iconst 0, 1) := by decide +kernel
theorem dJ0_getBytes_840e7_13 : decode cJ0_getBytes_840e7 13 = .ok (.aload_n 1, 1) := by decide +kernel
theorem dJ0_getBytes_840e7_14 : decode cJ0_getBytes_840e7 14 = .ok (.iload_n 2, 1) := by decide +kernel
theorem dJ0_getBytes_840e7_15 : decode cJ0_getBytes_840e7 15 = .ok (.iload_n 3, 1) := by decide +kernel
theorem dJ0_getBytes_840e7_16 : decode cJ0_getBytes_840e7 16 = .ok (.ishl, 1) := by decide +kernel
theorem dJ0_getBytes_840e7_17 : decode cJ0_getBytes_840e7 17 = .ok (.aload_n 0, 1) := by decide +kernel
theorem dJ0_getBytes_840e7_18 : decode cJ0_getBytes_840e7 18 = .ok (.getfield 9, 3) := by decide +kernel
theorem dJ0_getBytes_840e7_21 : decode cJ0_getBytes_840e7 21 = .ok (.arraylength, 1) := by decide +kernel
theorem dJ0_getBytes_840e7_22 : decode cJ0_getBytes_840e7 22 = .ok (.invokestatic 212, 3) := by decide +kernel
theorem dJ0_getBytes_840e7_25 : decode cJ0_getBytes_840e7 25 = .ok (.goto 18, 3) := by decide +kernel
theorem dJ0_getBytes_840e7_28 : decode cJ0_getBytes_840e7 28 = .ok (.aload_n 0, 1) := by decide +kernel
theorem dJ0_getBytes_840e7_29 : decode cJ0_getBytes_840e7 29 = .ok (.getfield 9, 3) := by decide +kernel
theorem dJ0_getBytes_840e7_32 : decode cJ0_getBytes_840e7 32 = .ok (.iconst 0, 1) := by decide +kernel
theorem dJ0_getBytes_840e7_33 : decode cJ0_getBytes_840e7 33 = .ok (.aload_n 1, 1) := by decide +kernel
theorem dJ0_getBytes_840e7_34 : decode cJ0_getBytes_840e7 34 = .ok (.iload_n 2, 1) := by decide +kernel
theorem dJ0_getBytes_840e7_35 : decode cJ0_getBytes_840e7 35 = .ok (.aload_n 0, 1) := by decide +kernel
theorem dJ0_getBytes_840e7_36 : decode cJ0_getBytes_840e7 36 = .ok (.getfield 9, 3) := by decide +kernel
theorem dJ0_getBytes_840e7_39 : decode cJ0_getBytes_840e7 39 = .ok (.arraylength, 1) := by decide +kernel
theorem dJ0_getBytes_840e7_40 : decode cJ0_getBytes_840e7 40 = .ok (.invokestatic 106, 3) := by decide +kernel
theorem dJ0_getBytes_840e7_43 : decode cJ0_getBytes_840e7 43 = .ok (.return_, 1) := by decide +kernel
theorem okJ0_getBytes_840e7 : okY yJ0_getBytes_840e7 3 := ⟨by decide +kernel, by decide +kernel, by decide +kernel⟩
def wpJ0_getBytes_840e7_K (mu : Mu) (v0 : Nat) (v1 : Nat) (v2 : Int32) (v3 : Int32) (Post : Mu → Prop) : Prop := (¬ (0 : Int32) = v3 → False) ∧ ((0 : Int32) = v3 → ∃ n4 g4 d4 m4, mT mu v1 = some (n4, g4) ∧ (v2 <<< (v3 &&& 31)) = nI d4 ∧ (nI (strL.getD v0 0)) = nI m4 ∧ (0 : Int32) = nI 0 ∧ m4 ≤ strL.getD v0 0 ∧ d4 + m4 ≤ n4 ∧ n4 ≤ 1000 ∧ ∀ mu5, mu5 = sT mu v1 (n4, va_cpy (sby v0) g4 0 d4 m4) → Post mu5)
set_option maxHeartbeats 4000000 in
set_option maxRecDepth 100000 in
theorem conJ0_getBytes_840e7_K (l : Launch) (D : va_G) (cA : Nat → ClassId) (mu : Mu) (v0 : Nat) (v1 : Nat) (v2 : Int32) (v3 : Int32) (Post : Mu → Prop) (hw0 : v0 < 10) (H : wpJ0_getBytes_840e7_K mu v0 v1 v2 v3 Post) {w0 ws0 : va_W} (hR : LR cA w0 ws0 mu) : ConN l D cA yJ0_getBytes_840e7 (wm yJ0_getBytes_840e7 cJ0_getBytes_840e7 4 none) { frames := 1, cells := 0, slots := 0, locals := 60 } ws0 [.ref (cA (100 + v0)), .ref v1, .int v2, .int v3] 0 0 (PV (fun w1 => ∃ m1, LR cA w0 w1 m1 ∧ Post m1)) := by
  refine ConN.of (by decide) (Nat.le_of_ble_eq_true rfl) ?_
  intro p e s m args below meth c C hF hr hini
  refine k_eq (ws' := ws0) (lv' := [(0, .ref (cA (100 + v0))), (1, .ref v1), (2, .int v2), (3, .int v3)]) (st' := []) rfl rfl rfl ?_
  have H : (¬ (0 : Int32) = v3 → False) ∧ ((0 : Int32) = v3 → ∃ n4 g4 d4 m4, mT mu v1 = some (n4, g4) ∧ (v2 <<< (v3 &&& 31)) = nI d4 ∧ (nI (strL.getD v0 0)) = nI m4 ∧ (0 : Int32) = nI 0 ∧ m4 ≤ strL.getD v0 0 ∧ d4 + m4 ≤ n4 ∧ n4 ≤ 1000 ∧ ∀ mu5, mu5 = sT mu v1 (n4, va_cpy (sby v0) g4 0 d4 m4) → Post mu5) := H
  refine k_aload_n C 0 (pc := 0) dJ0_getBytes_840e7_0 rfl rfl ?_
  refine k_callPi C (pc := 1) [] (wc := []) rfl rfl (k_runK C (As := []) (rest := []) hw0 (conJ0_coder_7d493 l D cA v0 hw0) ⟨k_cwB C tW_3_38 tW_3_35 tW_1_18 okJ0_coder_7d493 rfl rfl ⟨Nat.le_of_ble_eq_true rfl, Nat.le_of_ble_eq_true rfl⟩, C.w tW_3_36, C.w tW_3_37⟩ rfl rfl (Nat.le_of_ble_eq_true rfl) dJ0_getBytes_840e7_1 ⟨Nat.le_of_ble_eq_true rfl, Nat.le_of_ble_eq_true rfl⟩) (fun _ _ h_ => by obtain ⟨rfl, _⟩ := h_; rfl) (fun r_ w1_ hw_ => ?_)
  obtain ⟨rfl, rfl⟩ := hw_
  refine k_eq (pc := 4) setAll_nil rfl rfl ?_
  refine k_iload_n C 3 (pc := 4) dJ0_getBytes_840e7_4 rfl rfl ?_
  refine k_icmp_ne C (pc := 5) (tgt := 28) dJ0_getBytes_840e7_5 (by decide) (fun c_5 => ?_) (fun c_5 => ?_)
  · have H := H.1 c_5
    exact H.elim
  · have H := H.2 c_5
    refine k_aload_n C 0 (pc := 8) dJ0_getBytes_840e7_8 rfl rfl ?_
    refine k_getO C (pc := 9) (C.2.1.2.2.2.2.1.1 v0 hw0).2.2.1 tW_6_27 rfl dJ0_getBytes_840e7_9 ?_
    refine k_iconst C (pc := 12) (v := (0 : Int32)) dJ0_getBytes_840e7_12 rfl ?_
    refine k_aload_n C 1 (pc := 13) dJ0_getBytes_840e7_13 rfl rfl ?_
    refine k_iload_n C 2 (pc := 14) dJ0_getBytes_840e7_14 rfl rfl ?_
    refine k_iload_n C 3 (pc := 15) dJ0_getBytes_840e7_15 rfl rfl ?_
    refine k_ishl C (pc := 16) dJ0_getBytes_840e7_16 ?_
    refine k_aload_n C 0 (pc := 17) dJ0_getBytes_840e7_17 rfl rfl ?_
    refine k_getO C (pc := 18) (C.2.1.2.2.2.2.1.1 v0 hw0).2.2.1 tW_6_27 rfl dJ0_getBytes_840e7_18 ?_
    refine k_tlen C (pc := 21) (v := nI (strL.getD v0 0)) (C.2.1.2.2.2.2.1.1 v0 hw0).2.2.2 rfl dJ0_getBytes_840e7_21 ?_
    obtain ⟨n4, g4, d4, m4, hx_, hd_, hm_, hs_, h4_, h5_, h7_, H⟩ := H
    refine k_eq (pc := 22) (st' := [.int (nI m4), .int (nI d4), .ref v1, .int (nI 0), .ref (cA (200 + v0))]) rfl rfl (by rw [hd_, hm_, hs_]) ?_
    refine l_copyK C hR (pc := 22) hw0 tW_5_185 hx_ h4_ h5_ h7_ (Nat.le_of_ble_eq_true rfl) (Nat.le_of_ble_eq_true rfl) dJ0_getBytes_840e7_22 (fun w1 hR => ?_)
    obtain ⟨mu5, hm5⟩ : ∃ m_, m_ = sT mu v1 (n4, va_cpy (sby v0) g4 0 d4 m4) := ⟨_, rfl⟩
    rw [← hm5] at hR
    have H := H mu5 hm5
    refine k_goto C (pc := 25) (tgt := 43) dJ0_getBytes_840e7_25 (by decide) ?_
    exact k_vret C (pc := 43) hr dJ0_getBytes_840e7_43 ⟨mu5, hR, H⟩
/-! java/lang/AbstractStringBuilder.putStringAt(ILjava/lang/String;)V -/
theorem dJ5_putStringAt_47b60_0 : decode cJ5_putStringAt_47b60 0 = .ok (.aload_n 0, 1) := by decide +kernel
theorem dJ5_putStringAt_47b60_1 : decode cJ5_putStringAt_47b60 1 = .ok (.aload_n 2, 1) := by decide +kernel
theorem dJ5_putStringAt_47b60_2 : decode cJ5_putStringAt_47b60 2 = .ok (.invokevirtual 397, 3) := by decide +kernel
theorem dJ5_putStringAt_47b60_5 : decode cJ5_putStringAt_47b60 5 = .ok (.aload_n 2, 1) := by decide +kernel
theorem dJ5_putStringAt_47b60_6 : decode cJ5_putStringAt_47b60 6 = .ok (.aload_n 0, 1) := by decide +kernel
theorem dJ5_putStringAt_47b60_7 : decode cJ5_putStringAt_47b60 7 = .ok (.getfield 15, 3) := by decide +kernel
theorem dJ5_putStringAt_47b60_10 : decode cJ5_putStringAt_47b60 10 = .ok (.iload_n 1, 1) := by decide +kernel
theorem dJ5_putStringAt_47b60_11 : decode cJ5_putStringAt_47b60 11 = .ok (.aload_n 0, 1) := by decide +kernel
theorem dJ5_putStringAt_47b60_12 : decode cJ5_putStringAt_47b60 12 = .ok (.getfield 22, 3) := by decide +kernel
theorem dJ5_putStringAt_47b60_15 : decode cJ5_putStringAt_47b60 15 = .ok (.invokevirtual 399, 3) := by decide +kernel
theorem dJ5_putStringAt_47b60_18 : decode cJ5_putStringAt_47b60 18 = .ok (.return_, 1) := by decide +kernel
theorem okJ5_putStringAt_47b60 : okY yJ5_putStringAt_47b60 2 := ⟨by decide +kernel, by decide +kernel, by decide +kernel⟩
def wpJ5_putStringAt_47b60_K (mu : Mu) (v0 : Nat) (v1 : Int32) (v2 : Nat) (Post : Mu → Prop) : Prop := ∃ x1, mG mu v0 = some x1 ∧ wpJ5_inflateIfNeededFor_a7421_K mu v0 v2 (∃ x3, mG mu v0 = some x3 ∧ ∃ a3, x3.1 = some a3 ∧ ∃ x4, mG mu v0 = some x4 ∧ wpJ0_getBytes_840e7_K mu v2 a3 v1 x4.2.1 (fun mu6 => Post mu6))
set_option maxHeartbeats 4000000 in
set_option maxRecDepth 100000 in
theorem conJ5_putStringAt_47b60_K (l : Launch) (D : va_G) (cA : Nat → ClassId) (mu : Mu) (v0 : Nat) (v1 : Int32) (v2 : Nat) (Post : Mu → Prop) (hw2 : v2 < 10) (H : wpJ5_putStringAt_47b60_K mu v0 v1 v2 Post) {w0 ws0 : va_W} (hR : LR cA w0 ws0 mu) : ConN l D cA yJ5_putStringAt_47b60 (wm yJ5_putStringAt_47b60 cJ5_putStringAt_47b60 3 none) { frames := 2, cells := 0, slots := 0, locals := 83 } ws0 [.ref v0, .int v1, .ref (cA (100 + v2))] 0 0 (PV (fun w1 => ∃ m1, LR cA w0 w1 m1 ∧ Post m1)) := by
  refine ConN.of (by decide) (Nat.le_of_ble_eq_true rfl) ?_
  intro p e s m args below meth c C hF hr hini
  refine k_eq (ws' := ws0) (lv' := [(0, .ref v0), (1, .int v1), (2, .ref (cA (100 + v2)))]) (st' := []) rfl rfl rfl ?_
  have H : ∃ x1, mG mu v0 = some x1 ∧ wpJ5_inflateIfNeededFor_a7421_K mu v0 v2 (∃ x3, mG mu v0 = some x3 ∧ ∃ a3, x3.1 = some a3 ∧ ∃ x4, mG mu v0 = some x4 ∧ wpJ0_getBytes_840e7_K mu v2 a3 v1 x4.2.1 (fun mu6 => Post mu6)) := H
  refine k_aload_n C 0 (pc := 0) dJ5_putStringAt_47b60_0 rfl rfl ?_
  refine k_aload_n C 2 (pc := 1) dJ5_putStringAt_47b60_1 rfl rfl ?_
  obtain ⟨x1, hx1, H⟩ := H
  obtain ⟨i1, hi1⟩ := List.getElem?_of_mem (hR.G hx1)
  refine k_callAv C (pc := 2) (l_runV C hF (As := [.ref (cA (100 + v2))]) (rest := []) (ci := 12) (q0 := i1) (conJ5_inflateIfNeededFor_a7421_K l D cA mu v0 v2 _ hw2 H hR) ⟨k_cwB C tW_5_160 tW_5_157 tW_1_23 okJ5_inflateIfNeededFor_a7421 rfl rfl ⟨Nat.le_of_ble_eq_true rfl, Nat.le_of_ble_eq_true rfl⟩, C.w tW_5_159, (l_selG hF 2 rfl)⟩ hi1 rfl rfl rfl rfl (Nat.le_of_ble_eq_true rfl) dJ5_putStringAt_47b60_2 ⟨Nat.le_of_ble_eq_true rfl, Nat.le_of_ble_eq_true rfl⟩) (fun w1 hw_ => ?_)
  obtain ⟨rfl, H⟩ := hw_
  refine k_aload_n C 2 (pc := 5) dJ5_putStringAt_47b60_5 rfl rfl ?_
  refine k_aload_n C 0 (pc := 6) dJ5_putStringAt_47b60_6 rfl rfl ?_
  obtain ⟨x3, hx3, H⟩ := H
  obtain ⟨a3, ha3, H⟩ := H
  refine l_getG C hR (pc := 7) hx3 0 (Nat.lt_of_lt_of_le (Nat.lt_succ_self _) (Nat.le_of_ble_eq_true rfl)) (ref := "java/lang/AbstractStringBuilder") tW_5_75 rfl (v := .ref a3) (by show some (va_rf x3.1) = _; rw [ha3]; rfl) dJ5_putStringAt_47b60_7 ?_
  refine k_iload_n C 1 (pc := 10) dJ5_putStringAt_47b60_10 rfl rfl ?_
  refine k_aload_n C 0 (pc := 11) dJ5_putStringAt_47b60_11 rfl rfl ?_
  obtain ⟨x4, hx4, H⟩ := H
  refine l_getG C hR (pc := 12) hx4 1 (Nat.lt_of_lt_of_le (Nat.lt_succ_self _) (Nat.le_of_ble_eq_true rfl)) (ref := "java/lang/AbstractStringBuilder") tW_5_76 rfl (v := .int x4.2.1) rfl dJ5_putStringAt_47b60_12 ?_
  refine k_callAv C (pc := 15) (l_runK C hF (As := [.ref a3, .int v1, .int x4.2.1]) (rest := []) hw2 (conJ0_getBytes_840e7_K l D cA mu v2 a3 v1 x4.2.1 _ hw2 H hR) ⟨k_cwB C tW_5_184 tW_5_181 tW_1_18 okJ0_getBytes_840e7 rfl rfl ⟨Nat.le_of_ble_eq_true rfl, Nat.le_of_ble_eq_true rfl⟩, C.w tW_5_182, C.w tW_5_183⟩ rfl rfl (Nat.le_of_ble_eq_true rfl) dJ5_putStringAt_47b60_15 ⟨Nat.le_of_ble_eq_true rfl, Nat.le_of_ble_eq_true rfl⟩) (fun w1 hw_ => ?_)
  obtain ⟨mu6, hR, H⟩ := hw_
  exact k_vret C (pc := 18) hr dJ5_putStringAt_47b60_18 ⟨mu6, hR, H⟩
/-! java/lang/AbstractStringBuilder.append(Ljava/lang/String;)Ljava/lang/AbstractStringBuilder; -/
theorem dJ5_append_cf1ce_0 : decode cJ5_append_cf1ce 0 = .ok (.aload_n 1, 1) := by decide +kernel
theorem dJ5_append_cf1ce_1 : decode cJ5_append_cf1ce 1 = .ok (.ifnonnull 8, 3) := by decide +kernel
theorem dJ5_append_cf1ce_4 : decode cJ5_append_cf1ce 4 = .ok (.aload_n 0, 1) := by decide +kernel
theorem dJ5_append_cf1ce_5 : decode cJ5_append_cf1ce 5 = .ok (.invokevirtual 204, 3) := by decide +kernel
theorem dJ5_append_cf1ce_8 : decode cJ5_append_cf1ce 8 = .ok (.areturn, 1) := by decide +kernel
theorem dJ5_append_cf1ce_9 : decode cJ5_append_cf1ce 9 = .ok (.aload_n 1, 1) := by decide +kernel
theorem dJ5_append_cf1ce_10 : decode cJ5_append_cf1ce 10 = .ok (.invokevirtual 32, 3) := by decide +kernel
theorem dJ5_append_cf1ce_13 : decode cJ5_append_cf1ce 13 = .ok (.istore_n 2, 1) := by decide +kernel
theorem dJ5_append_cf1ce_14 : decode cJ5_append_cf1ce 14 = .ok (.aload_n 0, 1) := by decide +kernel
theorem dJ5_append_cf1ce_15 : decode cJ5_append_cf1ce 15 = .ok (.aload_n 0, 1) := by decide +kernel
theorem dJ5_append_cf1ce_16 : decode cJ5_append_cf1ce 16 = .ok (.getfield 79, 3) := by decide +kernel
theorem dJ5_append_cf1ce_19 : decode cJ5_append_cf1ce 19 = .ok (.iload_n 2, 1) := by decide +kernel
theorem dJ5_append_cf1ce_20 : decode cJ5_append_cf1ce 20 = .ok (.iadd, 1) := by decide +kernel
theorem dJ5_append_cf1ce_21 : decode cJ5_append_cf1ce 21 = .ok (.invokevirtual 100, 3) := by decide +kernel
theorem dJ5_append_cf1ce_24 : decode cJ5_append_cf1ce 24 = .ok (.aload_n 0, 1) := by decide +kernel
theorem dJ5_append_cf1ce_25 : decode cJ5_append_cf1ce 25 = .ok (.aload_n 0, 1) := by decide +kernel
theorem dJ5_append_cf1ce_26 : decode cJ5_append_cf1ce 26 = .ok (.getfield 79, 3) := by decide +kernel
theorem dJ5_append_cf1ce_29 : decode cJ5_append_cf1ce 29 = .ok (.aload_n 1, 1) := by decide +kernel
theorem dJ5_append_cf1ce_30 : decode cJ5_append_cf1ce 30 = .ok (.invokevirtual 208, 3) := by decide +kernel
theorem dJ5_append_cf1ce_33 : decode cJ5_append_cf1ce 33 = .ok (.aload_n 0, 1) := by decide +kernel
theorem dJ5_append_cf1ce_34 : decode cJ5_append_cf1ce 34 = .ok (.dup, 1) := by decide +kernel
theorem dJ5_append_cf1ce_35 : decode cJ5_append_cf1ce 35 = .ok (.getfield 79, 3) := by decide +kernel
theorem dJ5_append_cf1ce_38 : decode cJ5_append_cf1ce 38 = .ok (.iload_n 2, 1) := by decide +kernel
theorem dJ5_append_cf1ce_39 : decode cJ5_append_cf1ce 39 = .ok (.iadd, 1) := by decide +kernel
theorem dJ5_append_cf1ce_40 : decode cJ5_append_cf1ce 40 = .ok (.putfield 79, 3) := by decide +kernel
theorem dJ5_append_cf1ce_43 : decode cJ5_append_cf1ce 43 = .ok (.aload_n 0, 1) := by decide +kernel
theorem dJ5_append_cf1ce_44 : decode cJ5_append_cf1ce 44 = .ok (.areturn, 1) := by decide +kernel
theorem okJ5_append_cf1ce : okY yJ5_append_cf1ce 1 := ⟨by decide +kernel, by decide +kernel, by decide +kernel⟩
def wpJ5_append_cf1ce_K (mu : Mu) (v0 : Nat) (v1 : Nat) (Post : Nat → Mu → Prop) : Prop := ∃ x1, mG mu v0 = some x1 ∧ ∃ x2, mG mu v0 = some x2 ∧ wpJ5_ensureCapacityInternal_d00df mu v0 (x1.2.2.2 + (nI (strL.getD v1 0))) (∃ x4, mG mu v0 = some x4 ∧ ∃ x5, mG mu v0 = some x5 ∧ wpJ5_putStringAt_47b60_K mu v0 x4.2.2.2 v1 (fun mu7 => ∃ x8, mG mu7 v0 = some x8 ∧ ∃ x9, mG mu7 v0 = some x9 ∧ ∀ mu10, mu10 = sG mu7 v0 (x9.1, x9.2.1, x9.2.2.1, x8.2.2.2 + (nI (strL.getD v1 0))) → Post v0 mu10))
set_option maxHeartbeats 4000000 in
set_option maxRecDepth 100000 in
theorem conJ5_append_cf1ce_K (l : Launch) (D : va_G) (cA : Nat → ClassId) (mu : Mu) (v0 : Nat) (v1 : Nat) (Post : Nat → Mu → Prop) (hw1 : v1 < 10) (H : wpJ5_append_cf1ce_K mu v0 v1 Post) {w0 ws0 : va_W} (hR : LR cA w0 ws0 mu) : ConN l D cA yJ5_append_cf1ce (wm yJ5_append_cf1ce cJ5_append_cf1ce 3 (some (.object "java/lang/AbstractStringBuilder"))) { frames := 3, cells := 0, slots := 0, locals := 105 } ws0 [.ref v0, .ref (cA (100 + v1))] 0 0 (PR (fun r w1 => ∃ m1, LR cA w0 w1 m1 ∧ Post r m1)) := by
  refine ConN.of (by decide) (Nat.le_of_ble_eq_true rfl) ?_
  intro p e s m args below meth c C hF hr hini
  refine k_eq (ws' := ws0) (lv' := [(0, .ref v0), (1, .ref (cA (100 + v1)))]) (st' := []) rfl rfl rfl ?_
  have H : ∃ x1, mG mu v0 = some x1 ∧ ∃ x2, mG mu v0 = some x2 ∧ wpJ5_ensureCapacityInternal_d00df mu v0 (x1.2.2.2 + (nI (strL.getD v1 0))) (∃ x4, mG mu v0 = some x4 ∧ ∃ x5, mG mu v0 = some x5 ∧ wpJ5_putStringAt_47b60_K mu v0 x4.2.2.2 v1 (fun mu7 => ∃ x8, mG mu7 v0 = some x8 ∧ ∃ x9, mG mu7 v0 = some x9 ∧ ∀ mu10, mu10 = sG mu7 v0 (x9.1, x9.2.1, x9.2.2.1, x8.2.2.2 + (nI (strL.getD v1 0))) → Post v0 mu10)) := H
  refine k_aload_n C 1 (pc := 0) dJ5_append_cf1ce_0 rfl rfl ?_
  refine l_ifnonnullK C (pc := 1) (tgt := 9) dJ5_append_cf1ce_1 (by decide) ?_
  refine k_aload_n C 1 (pc := 9) dJ5_append_cf1ce_9 rfl rfl ?_
  refine k_callPi C (pc := 10) [] (wc := []) rfl rfl (k_runK C (As := []) (rest := []) hw1 (conJ0_length_8abf5 l D cA v1 hw1) ⟨k_cwB C tW_3_34 tW_5_152 tW_1_18 okJ0_length_8abf5 rfl rfl ⟨Nat.le_of_ble_eq_true rfl, Nat.le_of_ble_eq_true rfl⟩, C.w tW_3_32, C.w tW_3_33⟩ rfl rfl (Nat.le_of_ble_eq_true rfl) dJ5_append_cf1ce_10 ⟨Nat.le_of_ble_eq_true rfl, Nat.le_of_ble_eq_true rfl⟩) (fun _ _ h_ => by obtain ⟨rfl, _⟩ := h_; rfl) (fun r_ w1_ hw_ => ?_)
  obtain ⟨rfl, rfl⟩ := hw_
  refine k_eq (pc := 13) setAll_nil rfl rfl ?_
  refine k_istore_n C (pc := 13) dJ5_append_cf1ce_13 rfl (Nat.lt_of_lt_of_le (Nat.lt_succ_self _) (Nat.le_of_ble_eq_true rfl)) (lv' := [(2, .int (nI (strL.getD v1 0))), (0, .ref v0), (1, .ref (cA (100 + v1)))]) rfl ?_
  refine k_aload_n C 1 (pc := 14) dJ5_append_cf1ce_14 rfl rfl ?_
  refine k_aload_n C 1 (pc := 15) dJ5_append_cf1ce_15 rfl rfl ?_
  obtain ⟨x1, hx1, H⟩ := H
  refine l_getG C hR (pc := 16) hx1 3 (Nat.lt_of_lt_of_le (Nat.lt_succ_self _) (Nat.le_of_ble_eq_true rfl)) (ref := "java/lang/AbstractStringBuilder") tW_5_78 rfl (v := .int x1.2.2.2) rfl dJ5_append_cf1ce_16 ?_
  refine k_iload_n C 0 (pc := 19) dJ5_append_cf1ce_19 rfl rfl ?_
  refine k_iadd C (pc := 20) dJ5_append_cf1ce_20 ?_
  obtain ⟨x2, hx2, H⟩ := H
  obtain ⟨i2, hi2⟩ := List.getElem?_of_mem (hR.G hx2)
  refine k_callAv C (pc := 21) (l_runV C hF (As := [.int (x1.2.2.2 + (nI (strL.getD v1 0)))]) (rest := []) (ci := 12) (q0 := i2) (conJ5_ensureCapacityInternal_d00df l D cA mu v0 (x1.2.2.2 + (nI (strL.getD v1 0))) _  H hR) ⟨k_cwB C tW_5_104 tW_5_101 tW_1_23 okJ5_ensureCapacityInternal_d00df rfl rfl ⟨Nat.le_of_ble_eq_true rfl, Nat.le_of_ble_eq_true rfl⟩, C.w tW_5_103, (l_selG hF 0 rfl)⟩ hi2 rfl rfl rfl rfl (Nat.le_of_ble_eq_true rfl) dJ5_append_cf1ce_21 ⟨Nat.le_of_ble_eq_true rfl, Nat.le_of_ble_eq_true rfl⟩) (fun w1 hw_ => ?_)
  obtain ⟨rfl, H⟩ := hw_
  refine k_aload_n C 1 (pc := 24) dJ5_append_cf1ce_24 rfl rfl ?_
  refine k_aload_n C 1 (pc := 25) dJ5_append_cf1ce_25 rfl rfl ?_
  obtain ⟨x4, hx4, H⟩ := H
  refine l_getG C hR (pc := 26) hx4 3 (Nat.lt_of_lt_of_le (Nat.lt_succ_self _) (Nat.le_of_ble_eq_true rfl)) (ref := "java/lang/AbstractStringBuilder") tW_5_78 rfl (v := .int x4.2.2.2) rfl dJ5_append_cf1ce_26 ?_
  refine k_aload_n C 2 (pc := 29) dJ5_append_cf1ce_29 rfl rfl ?_
  obtain ⟨x5, hx5, H⟩ := H
  obtain ⟨i5, hi5⟩ := List.getElem?_of_mem (hR.G hx5)
  refine k_callAv C (pc := 30) (l_runV C hF (As := [.int x4.2.2.2, .ref (cA (100 + v1))]) (rest := []) (ci := 12) (q0 := i5) (conJ5_putStringAt_47b60_K l D cA mu v0 x4.2.2.2 v1 _ hw1 H hR) ⟨k_cwB C tW_5_156 tW_5_153 tW_1_23 okJ5_putStringAt_47b60 rfl rfl ⟨Nat.le_of_ble_eq_true rfl, Nat.le_of_ble_eq_true rfl⟩, C.w tW_5_155, (l_selG hF 1 rfl)⟩ hi5 rfl rfl rfl rfl (Nat.le_of_ble_eq_true rfl) dJ5_append_cf1ce_30 ⟨Nat.le_of_ble_eq_true rfl, Nat.le_of_ble_eq_true rfl⟩) (fun w1 hw_ => ?_)
  obtain ⟨mu7, hR, H⟩ := hw_
  refine k_aload_n C 1 (pc := 33) dJ5_append_cf1ce_33 rfl rfl ?_
  refine k_dup C (pc := 34) dJ5_append_cf1ce_34 rfl ?_
  obtain ⟨x8, hx8, H⟩ := H
  refine l_getG C hR (pc := 35) hx8 3 (Nat.lt_of_lt_of_le (Nat.lt_succ_self _) (Nat.le_of_ble_eq_true rfl)) (ref := "java/lang/AbstractStringBuilder") tW_5_78 rfl (v := .int x8.2.2.2) rfl dJ5_append_cf1ce_35 ?_
  refine k_iload_n C 0 (pc := 38) dJ5_append_cf1ce_38 rfl rfl ?_
  refine k_iadd C (pc := 39) dJ5_append_cf1ce_39 ?_
  obtain ⟨x9, hx9, H⟩ := H
  refine l_putG C hR (pc := 40) hx9 3 (Nat.lt_of_lt_of_le (Nat.lt_succ_self _) (Nat.le_of_ble_eq_true rfl)) (ref := "java/lang/AbstractStringBuilder") tW_5_78 rfl rfl  (ty := .int) rfl rfl rfl (x1 := ((x9.1, x9.2.1, x9.2.2.1, x8.2.2.2 + (nI (strL.getD v1 0))))) rfl dJ5_append_cf1ce_40 (fun w1 hR => ?_)
  obtain ⟨mu10, hm10⟩ : ∃ m_, m_ = sG mu7 v0 (x9.1, x9.2.1, x9.2.2.1, x8.2.2.2 + (nI (strL.getD v1 0))) := ⟨_, rfl⟩
  rw [← hm10] at hR
  have H := H mu10 hm10
  refine k_aload_n C 1 (pc := 43) dJ5_append_cf1ce_43 rfl rfl ?_
  exact k_aret C (pc := 44) hr (Or.inl ⟨_, rfl⟩) dJ5_append_cf1ce_44 ⟨mu10, hR, H⟩
/-! java/lang/StringBuilder.append(Ljava/lang/String;)Ljava/lang/StringBuilder; -/
theorem dJ4_append_15ec4_0 : decode cJ4_append_15ec4 0 = .ok (.aload_n 0, 1) := by decide +kernel
theorem dJ4_append_15ec4_1 : decode cJ4_append_15ec4 1 = .ok (.aload_n 1, 1) := by decide +kernel
theorem dJ4_append_15ec4_2 : decode cJ4_append_15ec4 2 = .ok (.invokespecial 29, 3) := by decide +kernel
theorem dJ4_append_15ec4_5 : decode cJ4_append_15ec4 5 = .ok (.pop, 1) := by decide +kernel
theorem dJ4_append_15ec4_6 : decode cJ4_append_15ec4 6 = .ok (.aload_n 0, 1) := by decide +kernel
theorem dJ4_append_15ec4_7 : decode cJ4_append_15ec4 7 = .ok (.areturn, 1) := by decide +kernel
theorem okJ4_append_15ec4 : okY yJ4_append_15ec4 1 := ⟨by decide +kernel, by decide +kernel, by decide +kernel⟩
def wpJ4_append_15ec4_K (mu : Mu) (v0 : Nat) (v1 : Nat) (Post : Nat → Mu → Prop) : Prop := ∃ x1, mG mu v0 = some x1 ∧ wpJ5_append_cf1ce_K mu v0 v1 (fun r2 mu3 => Post v0 mu3)
set_option maxHeartbeats 4000000 in
set_option maxRecDepth 100000 in
theorem conJ4_append_15ec4_K (l : Launch) (D : va_G) (cA : Nat → ClassId) (mu : Mu) (v0 : Nat) (v1 : Nat) (Post : Nat → Mu → Prop) (hw1 : v1 < 10) (H : wpJ4_append_15ec4_K mu v0 v1 Post) {w0 ws0 : va_W} (hR : LR cA w0 ws0 mu) : ConN l D cA yJ4_append_15ec4 (wm yJ4_append_15ec4 cJ4_append_15ec4 2 (some (.object "java/lang/StringBuilder"))) { frames := 4, cells := 0, slots := 0, locals := 127 } ws0 [.ref v0, .ref (cA (100 + v1))] 0 0 (PR (fun r w1 => ∃ m1, LR cA w0 w1 m1 ∧ Post r m1)) := by
  refine ConN.of (by decide) (Nat.le_of_ble_eq_true rfl) ?_
  intro p e s m args below meth c C hF hr hini
  refine k_eq (ws' := ws0) (lv' := [(0, .ref v0), (1, .ref (cA (100 + v1)))]) (st' := []) rfl rfl rfl ?_
  have H : ∃ x1, mG mu v0 = some x1 ∧ wpJ5_append_cf1ce_K mu v0 v1 (fun r2 mu3 => Post v0 mu3) := H
  refine k_aload_n C 0 (pc := 0) dJ4_append_15ec4_0 rfl rfl ?_
  refine k_aload_n C 1 (pc := 1) dJ4_append_15ec4_1 rfl rfl ?_
  obtain ⟨x1, hx1, H⟩ := H
  obtain ⟨i1, hi1⟩ := List.getElem?_of_mem (hR.G hx1)
  refine k_callAr C (pc := 2) (l_runSU C hF (As := [.ref (cA (100 + v1))]) (rest := []) (q0 := i1) (conJ5_append_cf1ce_K l D cA mu v0 v1 _ hw1 H hR) (l_cwSU C tW_5_96 tW_5_94 XW_6_169 XW_5_87 tW_5_95 tW_1_23 okJ5_append_cf1ce (by decide) rfl rfl ⟨Nat.le_of_ble_eq_true rfl, Nat.le_of_ble_eq_true rfl⟩) hi1 rfl rfl (Nat.le_of_ble_eq_true rfl) dJ4_append_15ec4_2 ⟨Nat.le_of_ble_eq_true rfl, Nat.le_of_ble_eq_true rfl⟩) (fun r2 w1 hw_ => ?_)
  obtain ⟨mu3, hR, H⟩ := hw_
  refine k_pop C (pc := 5) dJ4_append_15ec4_5 rfl ?_
  refine k_aload_n C 0 (pc := 6) dJ4_append_15ec4_6 rfl rfl ?_
  exact k_aret C (pc := 7) hr (Or.inl ⟨_, rfl⟩) dJ4_append_15ec4_7 ⟨mu3, hR, H⟩
/-! java/lang/AbstractStringBuilder.getValue()[B -/
theorem dJ5_getValue_6d5f1_0 : decode cJ5_getValue_6d5f1 0 = .ok (.aload_n 0, 1) := by decide +kernel
theorem dJ5_getValue_6d5f1_1 : decode cJ5_getValue_6d5f1 1 = .ok (.getfield 15, 3) := by decide +kernel
theorem dJ5_getValue_6d5f1_4 : decode cJ5_getValue_6d5f1 4 = .ok (.areturn, 1) := by decide +kernel
theorem okJ5_getValue_6d5f1 : okY yJ5_getValue_6d5f1 0 := ⟨by decide +kernel, by decide +kernel, by decide +kernel⟩
def wpJ5_getValue_6d5f1 (mu : Mu) (v0 : Nat) (Post : Nat → Prop) : Prop := ∃ x1, mG mu v0 = some x1 ∧ ∃ a1, x1.1 = some a1 ∧ Post a1
set_option maxHeartbeats 4000000 in
set_option maxRecDepth 100000 in
theorem conJ5_getValue_6d5f1 (l : Launch) (D : va_G) (cA : Nat → ClassId) (mu : Mu) (v0 : Nat) (Post : Nat → Prop)  (H : wpJ5_getValue_6d5f1 mu v0 Post) {w0 ws0 : va_W} (hR : LR cA w0 ws0 mu) : ConN l D cA yJ5_getValue_6d5f1 (wm yJ5_getValue_6d5f1 cJ5_getValue_6d5f1 1 (some (.array .byte))) { frames := 0, cells := 0, slots := 0, locals := 0 } ws0 [.ref v0] 0 0 (PR (fun r w1 => w1 = ws0 ∧ Post r)) := by
  refine ConN.of (by decide) (Nat.le_of_ble_eq_true rfl) ?_
  intro p e s m args below meth c C hF hr hini
  refine k_eq (ws' := ws0) (lv' := [(0, .ref v0)]) (st' := []) rfl rfl rfl ?_
  have H : ∃ x1, mG mu v0 = some x1 ∧ ∃ a1, x1.1 = some a1 ∧ Post a1 := H
  refine k_aload_n C 0 (pc := 0) dJ5_getValue_6d5f1_0 rfl rfl ?_
  obtain ⟨x1, hx1, H⟩ := H
  obtain ⟨a1, ha1, H⟩ := H
  refine l_getG C hR (pc := 1) hx1 0 (Nat.lt_of_lt_of_le (Nat.lt_succ_self _) (Nat.le_of_ble_eq_true rfl)) (ref := "java/lang/AbstractStringBuilder") tW_5_75 rfl (v := .ref a1) (by show some (va_rf x1.1) = _; rw [ha1]; rfl) dJ5_getValue_6d5f1_1 ?_
  exact k_aret C (pc := 4) hr (Or.inr ⟨_, rfl⟩) dJ5_getValue_6d5f1_4 ⟨rfl, H⟩
/-! java/lang/AbstractStringBuilder.length()I -/
theorem dJ5_length_8abf5_0 : decode cJ5_length_8abf5 0 = .ok (.aload_n 0, 1) := by decide +kernel
theorem dJ5_length_8abf5_1 : decode cJ5_length_8abf5 1 = .ok (.getfield 79, 3) := by decide +kernel
theorem dJ5_length_8abf5_4 : decode cJ5_length_8abf5 4 = .ok (.ireturn, 1) := by decide +kernel
theorem okJ5_length_8abf5 : okY yJ5_length_8abf5 0 := ⟨by decide +kernel, by decide +kernel, by decide +kernel⟩
def wpJ5_length_8abf5 (mu : Mu) (v0 : Nat) (Post : Int32 → Prop) : Prop := ∃ x1, mG mu v0 = some x1 ∧ Post x1.2.2.2
set_option maxHeartbeats 4000000 in
set_option maxRecDepth 100000 in
theorem conJ5_length_8abf5 (l : Launch) (D : va_G) (cA : Nat → ClassId) (mu : Mu) (v0 : Nat) (Post : Int32 → Prop)  (H : wpJ5_length_8abf5 mu v0 Post) {w0 ws0 : va_W} (hR : LR cA w0 ws0 mu) : ConN l D cA yJ5_length_8abf5 (wm yJ5_length_8abf5 cJ5_length_8abf5 1 (some .int)) { frames := 0, cells := 0, slots := 0, locals := 0 } ws0 [.ref v0] 0 0 (PI (fun r w1 => w1 = ws0 ∧ Post r)) := by
  refine ConN.of (by decide) (Nat.le_of_ble_eq_true rfl) ?_
  intro p e s m args below meth c C hF hr hini
  refine k_eq (ws' := ws0) (lv' := [(0, .ref v0)]) (st' := []) rfl rfl rfl ?_
  have H : ∃ x1, mG mu v0 = some x1 ∧ Post x1.2.2.2 := H
  refine k_aload_n C 0 (pc := 0) dJ5_length_8abf5_0 rfl rfl ?_
  obtain ⟨x1, hx1, H⟩ := H
  refine l_getG C hR (pc := 1) hx1 3 (Nat.lt_of_lt_of_le (Nat.lt_succ_self _) (Nat.le_of_ble_eq_true rfl)) (ref := "java/lang/AbstractStringBuilder") tW_5_78 rfl (v := .int x1.2.2.2) rfl dJ5_length_8abf5_1 ?_
  exact k_iret C (pc := 4) hr dJ5_length_8abf5_4 ⟨rfl, H⟩
/-! java/lang/StringBuilder.length()I -/
theorem dJ4_length_8abf5_0 : decode cJ4_length_8abf5 0 = .ok (.aload_n 0, 1) := by decide +kernel
theorem dJ4_length_8abf5_1 : decode cJ4_length_8abf5 1 = .ok (.invokespecial 343, 3) := by decide +kernel
theorem dJ4_length_8abf5_4 : decode cJ4_length_8abf5 4 = .ok (.ireturn, 1) := by decide +kernel
theorem okJ4_length_8abf5 : okY yJ4_length_8abf5 0 := ⟨by decide +kernel, by decide +kernel, by decide +kernel⟩
def wpJ4_length_8abf5 (mu : Mu) (v0 : Nat) (Post : Int32 → Prop) : Prop := ∃ x1, mG mu v0 = some x1 ∧ wpJ5_length_8abf5 mu v0 (fun r2 => Post r2)
set_option maxHeartbeats 4000000 in
set_option maxRecDepth 100000 in
theorem conJ4_length_8abf5 (l : Launch) (D : va_G) (cA : Nat → ClassId) (mu : Mu) (v0 : Nat) (Post : Int32 → Prop)  (H : wpJ4_length_8abf5 mu v0 Post) {w0 ws0 : va_W} (hR : LR cA w0 ws0 mu) : ConN l D cA yJ4_length_8abf5 (wm yJ4_length_8abf5 cJ4_length_8abf5 1 (some .int)) { frames := 1, cells := 0, slots := 0, locals := 20 } ws0 [.ref v0] 0 0 (PI (fun r w1 => w1 = ws0 ∧ Post r)) := by
  refine ConN.of (by decide) (Nat.le_of_ble_eq_true rfl) ?_
  intro p e s m args below meth c C hF hr hini
  refine k_eq (ws' := ws0) (lv' := [(0, .ref v0)]) (st' := []) rfl rfl rfl ?_
  have H : ∃ x1, mG mu v0 = some x1 ∧ wpJ5_length_8abf5 mu v0 (fun r2 => Post r2) := H
  refine k_aload_n C 0 (pc := 0) dJ4_length_8abf5_0 rfl rfl ?_
  obtain ⟨x1, hx1, H⟩ := H
  obtain ⟨i1, hi1⟩ := List.getElem?_of_mem (hR.G hx1)
  refine k_callAi C (pc := 1) (l_runSU C hF (As := []) (rest := []) (q0 := i1) (conJ5_length_8abf5 l D cA mu v0 _  H hR) (l_cwSU C tW_5_214 tW_5_213 XW_5_209 XW_5_87 tW_5_208 tW_1_23 okJ5_length_8abf5 (by decide) rfl rfl ⟨Nat.le_of_ble_eq_true rfl, Nat.le_of_ble_eq_true rfl⟩) hi1 rfl rfl (Nat.le_of_ble_eq_true rfl) dJ4_length_8abf5_1 ⟨Nat.le_of_ble_eq_true rfl, Nat.le_of_ble_eq_true rfl⟩) (fun r2 w1 hw_ => ?_)
  obtain ⟨rfl, H⟩ := hw_
  exact k_iret C (pc := 4) hr dJ4_length_8abf5_4 ⟨rfl, H⟩
/-! java/lang/AbstractStringBuilder.isLatin1()Z -/
theorem dJ5_isLatin1_aae02_0 : decode cJ5_isLatin1_aae02 0 = .ok (.getstatic 18, 3) := by decide +kernel
theorem dJ5_isLatin1_aae02_3 : decode cJ5_isLatin1_aae02 3 = .ok (.ifCond .eq 14, 3) := by decide +kernel
theorem dJ5_isLatin1_aae02_6 : decode cJ5_isLatin1_aae02 6 = .ok (.aload_n 0, 1) := by decide +kernel
theorem dJ5_isLatin1_aae02_7 : decode cJ5_isLatin1_aae02 7 = .ok (.getfield 22, 3) := by decide +kernel
theorem dJ5_isLatin1_aae02_10 : decode cJ5_isLatin1_aae02 10 = .ok (.ifCond .ne 7, 3) := by decide +kernel
theorem dJ5_isLatin1_aae02_13 : decode cJ5_isLatin1_aae02 13 = .ok (.iconst 1, 1) := by decide +kernel
theorem dJ5_isLatin1_aae02_14 : decode cJ5_isLatin1_aae02 14 = .ok (.goto 4, 3) := by decide +kernel
theorem dJ5_isLatin1_aae02_17 : decode cJ5_isLatin1_aae02 17 = .ok (.iconst 0, 1) := by decide +kernel
theorem dJ5_isLatin1_aae02_18 : decode cJ5_isLatin1_aae02 18 = .ok (.ireturn, 1) := by decide +kernel
theorem okJ5_isLatin1_aae02 : okY yJ5_isLatin1_aae02 0 := ⟨by decide +kernel, by decide +kernel, by decide +kernel⟩
def wpJ5_isLatin1_aae02 (mu : Mu) (v0 : Nat) (Post : Int32 → Prop) : Prop := ∃ x1, mG mu v0 = some x1 ∧ (¬ x1.2.1 = 0 → Post (0 : Int32)) ∧ (x1.2.1 = 0 → Post (1 : Int32))
set_option maxHeartbeats 4000000 in
set_option maxRecDepth 100000 in
theorem conJ5_isLatin1_aae02 (l : Launch) (D : va_G) (cA : Nat → ClassId) (mu : Mu) (v0 : Nat) (Post : Int32 → Prop)  (H : wpJ5_isLatin1_aae02 mu v0 Post) {w0 ws0 : va_W} (hR : LR cA w0 ws0 mu) : ConN l D cA yJ5_isLatin1_aae02 (wm yJ5_isLatin1_aae02 cJ5_isLatin1_aae02 1 (some .boolean)) { frames := 0, cells := 0, slots := 0, locals := 0 } ws0 [.ref v0] 0 0 (PI (fun r w1 => w1 = ws0 ∧ Post r)) := by
  refine ConN.of (by decide) (Nat.le_of_ble_eq_true rfl) ?_
  intro p e s m args below meth c C hF hr hini
  refine k_eq (ws' := ws0) (lv' := [(0, .ref v0)]) (st' := []) rfl rfl rfl ?_
  have H : ∃ x1, mG mu v0 = some x1 ∧ (¬ x1.2.1 = 0 → Post (0 : Int32)) ∧ (x1.2.1 = 0 → Post (1 : Int32)) := H
  refine k_gets C (pc := 0) (v := .int 1) C.2.1.2.2.2.2.2.1 tW_5_67 rfl dJ5_isLatin1_aae02_0 ?_
  refine k_if_eq C (pc := 3) (tgt := 17) dJ5_isLatin1_aae02_3 (by decide) (fun c_ => absurd c_ (by decide)) (fun _ => ?_)
  refine k_aload_n C 0 (pc := 6) dJ5_isLatin1_aae02_6 rfl rfl ?_
  obtain ⟨x1, hx1, H⟩ := H
  refine l_getG C hR (pc := 7) hx1 1 (Nat.lt_of_lt_of_le (Nat.lt_succ_self _) (Nat.le_of_ble_eq_true rfl)) (ref := "java/lang/AbstractStringBuilder") tW_5_76 rfl (v := .int x1.2.1) rfl dJ5_isLatin1_aae02_7 ?_
  refine k_if_ne C (pc := 10) (tgt := 17) dJ5_isLatin1_aae02_10 (by decide) (fun c_10 => ?_) (fun c_10 => ?_)
  · have H := H.1 c_10
    refine k_iconst C (pc := 17) (v := (0 : Int32)) dJ5_isLatin1_aae02_17 rfl ?_
    exact k_zret C (pc := 18) hr rfl dJ5_isLatin1_aae02_18 ⟨rfl, H⟩
  · have H := H.2 c_10
    refine k_iconst C (pc := 13) (v := (1 : Int32)) dJ5_isLatin1_aae02_13 rfl ?_
    refine k_goto C (pc := 14) (tgt := 18) dJ5_isLatin1_aae02_14 (by decide) ?_
    exact k_zret C (pc := 18) hr rfl dJ5_isLatin1_aae02_18 ⟨rfl, H⟩
/-! java/util/Arrays.checkLength(II)V -/
theorem dJ7_checkLength_df160_0 : decode cJ7_checkLength_df160 0 = .ok (.iload_n 1, 1) := by decide +kernel
theorem dJ7_checkLength_df160_1 : decode cJ7_checkLength_df160 1 = .ok (.iload_n 0, 1) := by decide +kernel
theorem dJ7_checkLength_df160_2 : decode cJ7_checkLength_df160 2 = .ok (.if_icmp .ge 35, 3) := by decide +kernel
theorem dJ7_checkLength_df160_5 : decode cJ7_checkLength_df160 5 = .ok (.new 43, 3) := by decide +kernel
theorem dJ7_checkLength_df160_8 : decode cJ7_checkLength_df160 8 = .ok (.dup, 1) := by decide +kernel
theorem dJ7_checkLength_df160_9 : decode cJ7_checkLength_df160 9 = .ok (.new 45, 3) := by decide +kernel
theorem dJ7_checkLength_df160_12 : decode cJ7_checkLength_df160 12 = .ok (.dup, 1) := by decide +kernel
theorem dJ7_checkLength_df160_13 : decode cJ7_checkLength_df160 13 = .ok (.invokespecial 47, 3) := by decide +kernel
theorem dJ7_checkLength_df160_16 : decode cJ7_checkLength_df160 16 = .ok (.iload_n 0, 1) := by decide +kernel
theorem dJ7_checkLength_df160_17 : decode cJ7_checkLength_df160 17 = .ok (.invokevirtual 54, 3) := by decide +kernel
theorem dJ7_checkLength_df160_20 : decode cJ7_checkLength_df160 20 = .ok (.ldc_w 337, 3) := by decide +kernel
theorem dJ7_checkLength_df160_23 : decode cJ7_checkLength_df160 23 = .ok (.invokevirtual 50, 3) := by decide +kernel
theorem dJ7_checkLength_df160_26 : decode cJ7_checkLength_df160 26 = .ok (.iload_n 1, 1) := by decide +kernel
theorem dJ7_checkLength_df160_27 : decode cJ7_checkLength_df160 27 = .ok (.invokevirtual 54, 3) := by decide +kernel
theorem dJ7_checkLength_df160_30 : decode cJ7_checkLength_df160 30 = .ok (.invokevirtual 61, 3) := by decide +kernel
theorem dJ7_checkLength_df160_33 : decode cJ7_checkLength_df160 33 = .ok (.invokespecial 65, 3) := by decide +kernel
theorem dJ7_checkLength_df160_36 : decode cJ7_checkLength_df160 36 = .ok (.athrow, 1) := by decide +kernel
theorem dJ7_checkLength_df160_37 : decode cJ7_checkLength_df160 37 = .ok (.return_, 1) := by decide +kernel
theorem okJ7_checkLength_df160 : okY yJ7_checkLength_df160 2 := ⟨by decide +kernel, by decide +kernel, by decide +kernel⟩
def wpJ7_checkLength_df160 (mu : Mu) (v0 : Int32) (v1 : Int32) (Post : Prop) : Prop := (v0 ≤ v1 → Post) ∧ (¬ v0 ≤ v1 → False)
set_option maxHeartbeats 4000000 in
set_option maxRecDepth 100000 in
theorem conJ7_checkLength_df160 (l : Launch) (D : va_G) (cA : Nat → ClassId) (mu : Mu) (v0 : Int32) (v1 : Int32) (Post : Prop)  (H : wpJ7_checkLength_df160 mu v0 v1 Post) {w0 ws0 : va_W} (hR : LR cA w0 ws0 mu) : ConN l D cA yJ7_checkLength_df160 (wm yJ7_checkLength_df160 cJ7_checkLength_df160 2 none) { frames := 0, cells := 0, slots := 0, locals := 0 } ws0 [.int v0, .int v1] 0 0 (PV (fun w1 => w1 = ws0 ∧ Post)) := by
  refine ConN.of (by decide) (Nat.le_of_ble_eq_true rfl) ?_
  intro p e s m args below meth c C hF hr hini
  refine k_eq (ws' := ws0) (lv' := [(0, .int v0), (1, .int v1)]) (st' := []) rfl rfl rfl ?_
  have H : (v0 ≤ v1 → Post) ∧ (¬ v0 ≤ v1 → False) := H
  refine k_iload_n C 1 (pc := 0) dJ7_checkLength_df160_0 rfl rfl ?_
  refine k_iload_n C 0 (pc := 1) dJ7_checkLength_df160_1 rfl rfl ?_
  refine k_icmp_ge C (pc := 2) (tgt := 37) dJ7_checkLength_df160_2 (by decide) (fun c_2 => ?_) (fun c_2 => ?_)
  · have H := H.1 c_2
    exact k_vret C (pc := 37) hr dJ7_checkLength_df160_37 ⟨rfl, H⟩
  · have H := H.2 c_2
    exact H.elim
/-! java/util/Arrays.copyOfRangeByte([BII)[B -/
theorem dJ7_copyOfRangeByte_39247_0 : decode cJ7_copyOfRangeByte_39247 0 = .ok (.iload_n 1, 1) := by decide +kernel
theorem dJ7_copyOfRangeByte_39247_1 : decode cJ7_copyOfRangeByte_39247 1 = .ok (.iload_n 2, 1) := by decide +kernel
theorem dJ7_copyOfRangeByte_39247_2 : decode cJ7_copyOfRangeByte_39247 2 = .ok (.invokestatic 343, 3) := by decide +kernel
theorem dJ7_copyOfRangeByte_39247_5 : decode cJ7_copyOfRangeByte_39247 5 = .ok (.iload_n 2, 1) := by decide +kernel
theorem dJ7_copyOfRangeByte_39247_6 : decode cJ7_copyOfRangeByte_39247 6 = .ok (.iload_n 1, 1) := by decide +kernel
theorem dJ7_copyOfRangeByte_39247_7 : decode cJ7_copyOfRangeByte_39247 7 = .ok (.isub, 1) := by decide +kernel
theorem dJ7_copyOfRangeByte_39247_8 : decode cJ7_copyOfRangeByte_39247 8 = .ok (.istore_n 3, 1) := by decide +kernel
theorem dJ7_copyOfRangeByte_39247_9 : decode cJ7_copyOfRangeByte_39247 9 = .ok (.iload_n 3, 1) := by decide +kernel
theorem dJ7_copyOfRangeByte_39247_10 : decode cJ7_copyOfRangeByte_39247 10 = .ok (.newarray .byte, 2) := by decide +kernel
theorem dJ7_copyOfRangeByte_39247_12 : decode cJ7_copyOfRangeByte_39247 12 = .ok (.astore 4, 2) := by decide +kernel
theorem dJ7_copyOfRangeByte_39247_14 : decode cJ7_copyOfRangeByte_39247 14 = .ok (.aload_n 0, 1) := by decide +kernel
theorem dJ7_copyOfRangeByte_39247_15 : decode cJ7_copyOfRangeByte_39247 15 = .ok (.iload_n 1, 1) := by decide +kernel
theorem dJ7_copyOfRangeByte_39247_16 : decode cJ7_copyOfRangeByte_39247 16 = .ok (.aload 4, 2) := by decide +kernel
theorem dJ7_copyOfRangeByte_39247_18 : decode cJ7_copyOfRangeByte_39247 18 = .ok (.iconst 0, 1) := by decide +kernel
theorem dJ7_copyOfRangeByte_39247_19 : decode cJ7_copyOfRangeByte_39247 19 = .ok (.aload_n 0, 1) := by decide +kernel
theorem dJ7_copyOfRangeByte_39247_20 : decode cJ7_copyOfRangeByte_39247 20 = .ok (.arraylength, 1) := by decide +kernel
theorem dJ7_copyOfRangeByte_39247_21 : decode cJ7_copyOfRangeByte_39247 21 = .ok (.iload_n 1, 1) := by decide +kernel
theorem dJ7_copyOfRangeByte_39247_22 : decode cJ7_copyOfRangeByte_39247 22 = .ok (.isub, 1) := by decide +kernel
theorem dJ7_copyOfRangeByte_39247_23 : decode cJ7_copyOfRangeByte_39247 23 = .ok (.iload_n 3, 1) := by decide +kernel
theorem dJ7_copyOfRangeByte_39247_24 : decode cJ7_copyOfRangeByte_39247 24 = .ok (.invokestatic 304, 3) := by decide +kernel
theorem dJ7_copyOfRangeByte_39247_27 : decode cJ7_copyOfRangeByte_39247 27 = .ok (.invokestatic 150, 3) := by decide +kernel
theorem dJ7_copyOfRangeByte_39247_30 : decode cJ7_copyOfRangeByte_39247 30 = .ok (.aload 4, 2) := by decide +kernel
theorem dJ7_copyOfRangeByte_39247_32 : decode cJ7_copyOfRangeByte_39247 32 = .ok (.areturn, 1) := by decide +kernel
theorem okJ7_copyOfRangeByte_39247 : okY yJ7_copyOfRangeByte_39247 3 := ⟨by decide +kernel, by decide +kernel, by decide +kernel⟩
def wpJ7_copyOfRangeByte_39247 (cB : Nat) (mu : Mu) (v0 : Nat) (v1 : Int32) (v2 : Int32) (Post : Nat → Mu → Prop) : Prop := 0 ≤ cB ∧ wpJ7_checkLength_df160 mu v1 v2 (∃ n2, v2 - v1 = nI n2 ∧ n2 ≤ 1000 ∧ 0 + (1 + n2 / 16) ≤ cB ∧ ∀ a2, frM mu a2 → ∀ mu3, mu3 = sT mu a2 (n2, fun _ => 0) → ∃ n4 f4, mT mu3 v0 = some (n4, f4) ∧ (0 + (1 + n2 / 16)) ≤ cB ∧ ∃ p5 f5 n5 g5 s5_ d5 m5, mT mu3 v0 = some (p5, f5) ∧ mT mu3 a2 = some (n5, g5) ∧ (0 : Int32) = nI d5 ∧ (if (v2 - v1) < ((nI n4) - v1) then (v2 - v1) else ((nI n4) - v1)) = nI m5 ∧ v1 = nI s5_ ∧ s5_ + m5 ≤ p5 ∧ d5 + m5 ≤ n5 ∧ p5 ≤ 1000 ∧ n5 ≤ 1000 ∧ (∀ i, i < m5 → fits .byte (.int (f5 (s5_ + i))) = true) ∧ ∀ mu6, mu6 = sT mu3 a2 (n5, va_cpy f5 g5 s5_ d5 m5) → (0 + (1 + n2 / 16)) ≤ cB ∧ Post a2 mu6)
set_option maxHeartbeats 4000000 in
set_option maxRecDepth 100000 in
theorem conJ7_copyOfRangeByte_39247 (l : Launch) (D : va_G) (cA : Nat → ClassId) (cB : Nat) (mu : Mu) (v0 : Nat) (v1 : Int32) (v2 : Int32) (Post : Nat → Mu → Prop)  (H : wpJ7_copyOfRangeByte_39247 cB mu v0 v1 v2 Post) {w0 ws0 : va_W} (hR : LR cA w0 ws0 mu) : ConN l D cA yJ7_copyOfRangeByte_39247 (wm yJ7_copyOfRangeByte_39247 cJ7_copyOfRangeByte_39247 5 (some (.array .byte))) { frames := 1, cells := cB, slots := 16 * cB, locals := 60 } ws0 [.ref v0, .int v1, .int v2] cB (16 * cB) (PR (fun r w1 => ∃ m1, LR cA w0 w1 m1 ∧ Post r m1)) := by
  refine ConN.of (by decide) (Nat.le_of_ble_eq_true rfl) ?_
  intro p e s m args below meth c C hF hr hini
  refine k_eq (ws' := ws0) (lv' := [(0, .ref v0), (1, .int v1), (2, .int v2)]) (st' := []) rfl rfl rfl ?_
  have H : 0 ≤ cB ∧ wpJ7_checkLength_df160 mu v1 v2 (∃ n2, v2 - v1 = nI n2 ∧ n2 ≤ 1000 ∧ 0 + (1 + n2 / 16) ≤ cB ∧ ∀ a2, frM mu a2 → ∀ mu3, mu3 = sT mu a2 (n2, fun _ => 0) → ∃ n4 f4, mT mu3 v0 = some (n4, f4) ∧ (0 + (1 + n2 / 16)) ≤ cB ∧ ∃ p5 f5 n5 g5 s5_ d5 m5, mT mu3 v0 = some (p5, f5) ∧ mT mu3 a2 = some (n5, g5) ∧ (0 : Int32) = nI d5 ∧ (if (v2 - v1) < ((nI n4) - v1) then (v2 - v1) else ((nI n4) - v1)) = nI m5 ∧ v1 = nI s5_ ∧ s5_ + m5 ≤ p5 ∧ d5 + m5 ≤ n5 ∧ p5 ≤ 1000 ∧ n5 ≤ 1000 ∧ (∀ i, i < m5 → fits .byte (.int (f5 (s5_ + i))) = true) ∧ ∀ mu6, mu6 = sT mu3 a2 (n5, va_cpy f5 g5 s5_ d5 m5) → (0 + (1 + n2 / 16)) ≤ cB ∧ Post a2 mu6) := H
  refine k_widen (k := 0) (n := 16 * 0) (Nat.le_refl _) (Nat.le_refl _) ?_
  refine k_iload_n C 1 (pc := 0) dJ7_copyOfRangeByte_39247_0 rfl rfl ?_
  refine k_iload_n C 2 (pc := 1) dJ7_copyOfRangeByte_39247_1 rfl rfl ?_
  obtain ⟨hc_, H⟩ := H
  refine k_callAv C (pc := 2) (l_runS C hF (As := [.int v1, .int v2]) (rest := []) (conJ7_checkLength_df160 l D cA mu v1 v2 _  H hR) ⟨k_cwB C tW_5_224 tW_5_222 tW_1_26 okJ7_checkLength_df160 rfl rfl ⟨Nat.le_of_ble_eq_true rfl, Nat.le_of_ble_eq_true rfl⟩, C.w tW_5_223⟩ rfl rfl (Nat.le_of_ble_eq_true rfl) dJ7_copyOfRangeByte_39247_2 ⟨hc_, (by show 16 * (0) + 0 ≤ 16 * cB; omega)⟩) (fun w1 hw_ => ?_)
  obtain ⟨rfl, H⟩ := hw_
  refine k_iload_n C 2 (pc := 5) dJ7_copyOfRangeByte_39247_5 rfl rfl ?_
  refine k_iload_n C 1 (pc := 6) dJ7_copyOfRangeByte_39247_6 rfl rfl ?_
  refine k_isub C (pc := 7) dJ7_copyOfRangeByte_39247_7 ?_
  refine k_istore_n C (pc := 8) dJ7_copyOfRangeByte_39247_8 rfl (Nat.lt_of_lt_of_le (Nat.lt_succ_self _) (Nat.le_of_ble_eq_true rfl)) (lv' := [(3, .int (v2 - v1)), (0, .ref v0), (1, .int v1), (2, .int v2)]) rfl ?_
  refine k_iload_n C 0 (pc := 9) dJ7_copyOfRangeByte_39247_9 rfl rfl ?_
  obtain ⟨n2, hk_, hn_, hc_, H⟩ := H
  refine k_eq (pc := 10) (st' := [.int (nI n2)]) rfl rfl (by rw [hk_]) ?_
  refine l_newT C hR (u := 0) (pc := 10) hn_ hc_ (Nat.mul_le_mul_left 16 hc_) dJ7_copyOfRangeByte_39247_10 (fun a2 w1 hf_ hR => ?_)
  have H := H a2 hf_
  obtain ⟨mu3, hm3⟩ : ∃ m_, m_ = sT mu a2 (n2, fun _ => 0) := ⟨_, rfl⟩
  rw [← hm3] at hR
  have H := H mu3 hm3
  refine k_astore C (pc := 12) dJ7_copyOfRangeByte_39247_12 (Nat.lt_of_lt_of_le (Nat.lt_succ_self _) (Nat.le_of_ble_eq_true rfl)) (lv' := [(4, .ref a2), (3, .int (v2 - v1)), (0, .ref v0), (1, .int v1), (2, .int v2)]) rfl ?_
  refine k_aload_n C 2 (pc := 14) dJ7_copyOfRangeByte_39247_14 rfl rfl ?_
  refine k_iload_n C 3 (pc := 15) dJ7_copyOfRangeByte_39247_15 rfl rfl ?_
  refine k_aload C 0 (pc := 16) dJ7_copyOfRangeByte_39247_16 rfl ?_
  refine k_iconst C (pc := 18) (v := (0 : Int32)) dJ7_copyOfRangeByte_39247_18 rfl ?_
  refine k_aload_n C 2 (pc := 19) dJ7_copyOfRangeByte_39247_19 rfl rfl ?_
  obtain ⟨n4, f4, hx_, H⟩ := H
  refine l_alenT C hR (pc := 20) hx_ dJ7_copyOfRangeByte_39247_20 ?_
  refine k_iload_n C 3 (pc := 21) dJ7_copyOfRangeByte_39247_21 rfl rfl ?_
  refine k_isub C (pc := 22) dJ7_copyOfRangeByte_39247_22 ?_
  refine k_iload_n C 1 (pc := 23) dJ7_copyOfRangeByte_39247_23 rfl rfl ?_
  obtain ⟨hc_, H⟩ := H
  refine k_mmin C (pc := 24) tW_5_128 tW_3_92 tW_1_16 tW_3_93 (Nat.le_of_ble_eq_true rfl) (Nat.le_of_ble_eq_true rfl) hc_ (Nat.mul_le_mul_left 16 hc_) dJ7_copyOfRangeByte_39247_24 ?_
  obtain ⟨p5, f5, n5, g5, s5_, d5, m5, hx0_, hx_, hd_, hm_, hs_, h4_, h5_, h6_, h7_, h8_, H⟩ := H
  refine k_eq (pc := 27) (st' := [.int (nI m5), .int (nI d5), .ref a2, .int (nI s5_), .ref v0]) rfl rfl (by rw [hd_, hm_, hs_]) ?_
  refine l_copyT C hR (pc := 27) tW_5_129 hx0_ hx_ h4_ h5_ h6_ h7_ h8_ (Nat.le_of_ble_eq_true rfl) (Nat.le_of_ble_eq_true rfl) dJ7_copyOfRangeByte_39247_27 (fun w1 hR => ?_)
  obtain ⟨mu6, hm6⟩ : ∃ m_, m_ = sT mu3 a2 (n5, va_cpy f5 g5 s5_ d5 m5) := ⟨_, rfl⟩
  rw [← hm6] at hR
  have H := H mu6 hm6
  refine k_aload C 0 (pc := 30) dJ7_copyOfRangeByte_39247_30 rfl ?_
  obtain ⟨hc_, H⟩ := H
  refine k_widen (k := cB) (n := 16 * cB) hc_ (Nat.mul_le_mul_left 16 hc_) ?_
  exact k_aret C (pc := 32) hr (Or.inr ⟨_, rfl⟩) dJ7_copyOfRangeByte_39247_32 ⟨mu6, hR, H⟩
/-! java/util/Arrays.copyOfRange([BII)[B -/
theorem dJ7_copyOfRange_39247_0 : decode cJ7_copyOfRange_39247 0 = .ok (.iload_n 1, 1) := by decide +kernel
theorem dJ7_copyOfRange_39247_1 : decode cJ7_copyOfRange_39247 1 = .ok (.ifCond .ne 9, 3) := by decide +kernel
theorem dJ7_copyOfRange_39247_4 : decode cJ7_copyOfRange_39247 4 = .ok (.iload_n 2, 1) := by decide +kernel
theorem dJ7_copyOfRange_39247_5 : decode cJ7_copyOfRange_39247 5 = .ok (.aload_n 0, 1) := by decide +kernel
theorem dJ7_copyOfRange_39247_6 : decode cJ7_copyOfRange_39247 6 = .ok (.arraylength, 1) := by decide +kernel
theorem dJ7_copyOfRange_39247_7 : decode cJ7_copyOfRange_39247 7 = .ok (.if_icmp .eq 10, 3) := by decide +kernel
theorem dJ7_copyOfRange_39247_10 : decode cJ7_copyOfRange_39247 10 = .ok (.aload_n 0, 1) := by decide +kernel
theorem dJ7_copyOfRange_39247_11 : decode cJ7_copyOfRange_39247 11 = .ok (.iload_n 1, 1) := by decide +kernel
theorem dJ7_copyOfRange_39247_12 : decode cJ7_copyOfRange_39247 12 = .ok (.iload_n 2, 1) := by decide +kernel
theorem dJ7_copyOfRange_39247_13 : decode cJ7_copyOfRange_39247 13 = .ok (.invokestatic 339, 3) := by decide +kernel
theorem dJ7_copyOfRange_39247_16 : decode cJ7_copyOfRange_39247 16 = .ok (.areturn, 1) := by decide +kernel
theorem dJ7_copyOfRange_39247_17 : decode cJ7_copyOfRange_39247 17 = .ok (.aload_n 0, 1) := by decide +kernel
theorem dJ7_copyOfRange_39247_18 : decode cJ7_copyOfRange_39247 18 = .ok (.invokevirtual 310, 3) := by decide +kernel
theorem dJ7_copyOfRange_39247_21 : decode cJ7_copyOfRange_39247 21 = .ok (.checkcast 311, 3) := by decide +kernel
theorem dJ7_copyOfRange_39247_24 : decode cJ7_copyOfRange_39247 24 = .ok (.areturn, 1) := by decide +kernel
theorem okJ7_copyOfRange_39247 : okY yJ7_copyOfRange_39247 3 := ⟨by decide +kernel, by decide +kernel, by decide +kernel⟩
def wpJ7_copyOfRange_39247_b10 (cB : Nat) (Post : Nat → Mu → Prop)  (mu : Mu) (u : Nat) (v0 : Nat) (v1 : Int32) (v2 : Int32) : Prop := ∃ q2, u + q2 ≤ cB ∧ wpJ7_copyOfRangeByte_39247 q2 mu v0 v1 v2 (fun r1 mu3 => (u + q2) ≤ cB ∧ Post r1 mu3)
def wpJ7_copyOfRange_39247 (cB : Nat) (mu : Mu) (v0 : Nat) (v1 : Int32) (v2 : Int32) (Post : Nat → Mu → Prop) : Prop := (¬ v1 = 0 → wpJ7_copyOfRange_39247_b10 cB Post  mu 0 v0 v1 v2) ∧ (v1 = 0 → ∃ n4 f4, mT mu v0 = some (n4, f4) ∧ (v2 = (nI n4) → False) ∧ (¬ v2 = (nI n4) → wpJ7_copyOfRange_39247_b10 cB Post  mu 0 v0 v1 v2))
set_option maxHeartbeats 4000000 in
set_option maxRecDepth 100000 in
theorem conJ7_copyOfRange_39247 (l : Launch) (D : va_G) (cA : Nat → ClassId) (cB : Nat) (mu : Mu) (v0 : Nat) (v1 : Int32) (v2 : Int32) (Post : Nat → Mu → Prop)  (H : wpJ7_copyOfRange_39247 cB mu v0 v1 v2 Post) {w0 ws0 : va_W} (hR : LR cA w0 ws0 mu) : ConN l D cA yJ7_copyOfRange_39247 (wm yJ7_copyOfRange_39247 cJ7_copyOfRange_39247 3 (some (.array .byte))) { frames := 2, cells := cB, slots := 16 * cB, locals := 84 } ws0 [.ref v0, .int v1, .int v2] cB (16 * cB) (PR (fun r w1 => ∃ m1, LR cA w0 w1 m1 ∧ Post r m1)) := by
  refine ConN.of (by decide) (Nat.le_of_ble_eq_true rfl) ?_
  intro p e s m args below meth c C hF hr hini
  have B10 : ∀  (ws : va_W) (mu : Mu) (u : Nat) (v0 : Nat) (v1 : Int32) (v2 : Int32), LR cA w0 ws mu → wpJ7_copyOfRange_39247_b10 cB Post  mu u v0 v1 v2 → Kf p l e { frames := 2, cells := cB, slots := 16 * cB, locals := 84 } s m args below meth c D (va_A ws0 s.heap.size) 3 u (16 * u) (MQ below (QC D ws0 s.heap.size (PR (fun r w1 => ∃ m1, LR cA w0 w1 m1 ∧ Post r m1))) args s cB (16 * cB) (va_A ws0 s.heap.size)) ws 10 [(0, .ref v0), (1, .int v1), (2, .int v2)] [] := by
    intro  ws mu u v0 v1 v2 hR H
    have H : ∃ q2, u + q2 ≤ cB ∧ wpJ7_copyOfRangeByte_39247 q2 mu v0 v1 v2 (fun r1 mu3 => (u + q2) ≤ cB ∧ Post r1 mu3) := H
    refine k_aload_n C 0 (pc := 10) dJ7_copyOfRange_39247_10 rfl rfl ?_
    refine k_iload_n C 1 (pc := 11) dJ7_copyOfRange_39247_11 rfl rfl ?_
    refine k_iload_n C 2 (pc := 12) dJ7_copyOfRange_39247_12 rfl rfl ?_
    obtain ⟨q2, hc_, H⟩ := H
    refine k_callAr C (pc := 13) (l_runS C hF (As := [.ref v0, .int v1, .int v2]) (rest := []) (conJ7_copyOfRangeByte_39247 l D cA q2 mu v0 v1 v2 _  H hR) ⟨k_cwB C tW_5_221 tW_5_219 tW_1_26 okJ7_copyOfRangeByte_39247 rfl rfl ⟨Nat.le_of_ble_eq_true rfl, Nat.le_of_ble_eq_true rfl⟩, C.w tW_5_220⟩ rfl rfl (Nat.le_of_ble_eq_true rfl) dJ7_copyOfRange_39247_13 ⟨hc_, by show 16 * (u) + 16 * q2 ≤ 16 * cB; omega⟩) (fun r1 w1 hw_ => ?_)
    obtain ⟨mu3, hR, H⟩ := hw_
    refine k_sl ?_
    obtain ⟨hc_, H⟩ := H
    refine k_widen (k := cB) (n := 16 * cB) hc_ (Nat.mul_le_mul_left 16 hc_) ?_
    exact k_aret C (pc := 16) hr (Or.inr ⟨_, rfl⟩) dJ7_copyOfRange_39247_16 ⟨mu3, hR, H⟩
  refine k_eq (ws' := ws0) (lv' := [(0, .ref v0), (1, .int v1), (2, .int v2)]) (st' := []) rfl rfl rfl ?_
  have H : (¬ v1 = 0 → wpJ7_copyOfRange_39247_b10 cB Post  mu 0 v0 v1 v2) ∧ (v1 = 0 → ∃ n4 f4, mT mu v0 = some (n4, f4) ∧ (v2 = (nI n4) → False) ∧ (¬ v2 = (nI n4) → wpJ7_copyOfRange_39247_b10 cB Post  mu 0 v0 v1 v2)) := H
  refine k_widen (k := 0) (n := 16 * 0) (Nat.le_refl _) (Nat.le_refl _) ?_
  refine k_iload_n C 1 (pc := 0) dJ7_copyOfRange_39247_0 rfl rfl ?_
  refine k_if_ne C (pc := 1) (tgt := 10) dJ7_copyOfRange_39247_1 (by decide) (fun c_1 => ?_) (fun c_1 => ?_)
  · have H := H.1 c_1
    refine k_lv (pc := 10) [0, 1, 2] (lv' := [(0, .ref v0), (1, .int v1), (2, .int v2)]) rfl ?_
    exact B10  _ mu 0 v0 v1 v2 hR H
  · have H := H.2 c_1
    refine k_iload_n C 2 (pc := 4) dJ7_copyOfRange_39247_4 rfl rfl ?_
    refine k_aload_n C 0 (pc := 5) dJ7_copyOfRange_39247_5 rfl rfl ?_
    obtain ⟨n4, f4, hx_, H⟩ := H
    refine l_alenT C hR (pc := 6) hx_ dJ7_copyOfRange_39247_6 ?_
    refine k_icmp_eq C (pc := 7) (tgt := 17) dJ7_copyOfRange_39247_7 (by decide) (fun c_7 => ?_) (fun c_7 => ?_)
    · have H := H.1 c_7
      exact H.elim
    · have H := H.2 c_7
      refine k_lv (pc := 10) [0, 1, 2] (lv' := [(0, .ref v0), (1, .int v1), (2, .int v2)]) rfl ?_
      exact B10  _ mu 0 v0 v1 v2 hR H
/-! java/lang/String.<init>(Ljava/lang/AbstractStringBuilder;Ljava/lang/Void;)V -/
theorem dJ0_init_db425_0 : decode cJ0_init_db425 0 = .ok (.aload_n 0, 1) := by decide +kernel
theorem dJ0_init_db425_1 : decode cJ0_init_db425 1 = .ok (.invokespecial 1, 3) := by decide +kernel
theorem dJ0_init_db425_4 : decode cJ0_init_db425 4 = .ok (.aload_n 1, 1) := by decide +kernel
theorem dJ0_init_db425_5 : decode cJ0_init_db425 5 = .ok (.invokevirtual 552, 3) := by decide +kernel
theorem dJ0_init_db425_8 : decode cJ0_init_db425 8 = .ok (.astore_n 3, 1) := by decide +kernel
theorem dJ0_init_db425_9 : decode cJ0_init_db425 9 = .ok (.aload_n 1, 1) := by decide +kernel
theorem dJ0_init_db425_10 : decode cJ0_init_db425 10 = .ok (.invokevirtual 549, 3) := by decide +kernel
theorem dJ0_init_db425_13 : decode cJ0_init_db425 13 = .ok (.istore 4, 2) := by decide +kernel
theorem dJ0_init_db425_15 : decode cJ0_init_db425 15 = .ok (.aload_n 1, 1) := by decide +kernel
theorem dJ0_init_db425_16 : decode cJ0_init_db425 16 = .ok (.invokevirtual 1047, 3) := by decide +kernel
theorem dJ0_init_db425_19 : decode cJ0_init_db425 19 = .ok (.ifCond .eq 22, 3) := by decide +kernel
theorem dJ0_init_db425_22 : decode cJ0_init_db425 22 = .ok (.aload_n 0, 1) := by decide +kernel
theorem dJ0_init_db425_23 : decode cJ0_init_db425 23 = .ok (.iconst 0, 1) := by decide +kernel
theorem dJ0_init_db425_24 : decode cJ0_init_db425 24 = .ok (.putfield 15, 3) := by decide +kernel
theorem dJ0_init_db425_27 : decode cJ0_init_db425 27 = .ok (.aload_n 0, 1) := by decide +kernel
theorem dJ0_init_db425_28 : decode cJ0_init_db425 28 = .ok (.aload_n 3, 1) := by decide +kernel
theorem dJ0_init_db425_29 : decode cJ0_init_db425 29 = .ok (.iconst 0, 1) := by decide +kernel
theorem dJ0_init_db425_30 : decode cJ0_init_db425 30 = .ok (.iload 4, 2) := by decide +kernel
theorem dJ0_init_db425_32 : decode cJ0_init_db425 32 = .ok (.invokestatic 54, 3) := by decide +kernel
theorem dJ0_init_db425_35 : decode cJ0_init_db425 35 = .ok (.putfield 9, 3) := by decide +kernel
theorem dJ0_init_db425_38 : decode cJ0_init_db425 38 = .ok (.goto 59, 3) := by decide +kernel
theorem dJ0_init_db425_41 : decode cJ0_init_db425 41 = .ok (.getstatic 38, 3) := by decide +kernel
theorem dJ0_init_db425_44 : decode cJ0_init_db425 44 = .ok (.ifCond .eq 35, 3) := by decide +kernel
theorem dJ0_init_db425_47 : decode cJ0_init_db425 47 = .ok (.aload_n 1, 1) := by decide +kernel
theorem dJ0_init_db425_48 : decode cJ0_init_db425 48 = .ok (.getfield 1048, 3) := by decide +kernel
theorem dJ0_init_db425_51 : decode cJ0_init_db425 51 = .ok (.ifCond .eq 28, 3) := by decide +kernel
theorem dJ0_init_db425_54 : decode cJ0_init_db425 54 = .ok (.aload_n 0, 1) := by decide +kernel
theorem dJ0_init_db425_55 : decode cJ0_init_db425 55 = .ok (.aload_n 3, 1) := by decide +kernel
theorem dJ0_init_db425_56 : decode cJ0_init_db425 56 = .ok (.iconst 0, 1) := by decide +kernel
theorem dJ0_init_db425_57 : decode cJ0_init_db425 57 = .ok (.iload 4, 2) := by decide +kernel
theorem dJ0_init_db425_59 : decode cJ0_init_db425 59 = .ok (.invokestatic 1051, 3) := by decide +kernel
theorem dJ0_init_db425_62 : decode cJ0_init_db425 62 = .ok (.putfield 9, 3) := by decide +kernel
theorem dJ0_init_db425_65 : decode cJ0_init_db425 65 = .ok (.aload_n 0, 1) := by decide +kernel
theorem dJ0_init_db425_66 : decode cJ0_init_db425 66 = .ok (.aload_n 0, 1) := by decide +kernel
theorem dJ0_init_db425_67 : decode cJ0_init_db425 67 = .ok (.getfield 9, 3) := by decide +kernel
theorem dJ0_init_db425_70 : decode cJ0_init_db425 70 = .ok (.iload 4, 2) := by decide +kernel
theorem dJ0_init_db425_72 : decode cJ0_init_db425 72 = .ok (.invokestatic 47, 3) := by decide +kernel
theorem dJ0_init_db425_75 : decode cJ0_init_db425 75 = .ok (.putfield 15, 3) := by decide +kernel
theorem dJ0_init_db425_78 : decode cJ0_init_db425 78 = .ok (.return_, 1) := by decide +kernel
theorem dJ0_init_db425_79 : decode cJ0_init_db425 79 = .ok (.aload_n 0, 1) := by decide +kernel
theorem dJ0_init_db425_80 : decode cJ0_init_db425 80 = .ok (.iconst 1, 1) := by decide +kernel
theorem dJ0_init_db425_81 : decode cJ0_init_db425 81 = .ok (.putfield 15, 3) := by decide +kernel
theorem dJ0_init_db425_84 : decode cJ0_init_db425 84 = .ok (.aload_n 0, 1) := by decide +kernel
theorem dJ0_init_db425_85 : decode cJ0_init_db425 85 = .ok (.aload_n 3, 1) := by decide +kernel
theorem dJ0_init_db425_86 : decode cJ0_init_db425 86 = .ok (.iconst 0, 1) := by decide +kernel
theorem dJ0_init_db425_87 : decode cJ0_init_db425 87 = .ok (.iload 4, 2) := by decide +kernel
theorem dJ0_init_db425_89 : decode cJ0_init_db425 89 = .ok (.iconst 1, 1) := by decide +kernel
theorem dJ0_init_db425_90 : decode cJ0_init_db425 90 = .ok (.ishl, 1) := by decide +kernel
theorem dJ0_init_db425_91 : decode cJ0_init_db425 91 = .ok (.invokestatic 54, 3) := by decide +kernel
theorem dJ0_init_db425_94 : decode cJ0_init_db425 94 = .ok (.putfield 9, 3) := by decide +kernel
theorem dJ0_init_db425_97 : decode cJ0_init_db425 97 = .ok (.return_, 1) := by decide +kernel
theorem okJ0_init_db425 : okY yJ0_init_db425 2 := ⟨by decide +kernel, by decide +kernel, by decide +kernel⟩
def wpJ0_init_db425 (cB : Nat) (mu : Mu) (v0 : Nat) (v1 : Nat) (Post : Mu → Prop) : Prop := ∃ x1, mG mu v1 = some x1 ∧ 0 ≤ cB ∧ wpJ5_getValue_6d5f1 mu v1 (fun r2 => ∃ x3, mG mu v1 = some x3 ∧ 0 ≤ cB ∧ wpJ4_length_8abf5 mu v1 (fun r4 => ∃ x5, mG mu v1 = some x5 ∧ 0 ≤ cB ∧ wpJ5_isLatin1_aae02 mu v1 (fun r6 => (r6 = 0 → False) ∧ (¬ r6 = 0 → ∃ x7, mS mu v0 = some x7 ∧ ∀ mu8, mu8 = sS mu v0 (x7.1, (0 : Int32), x7.2.2.1, x7.2.2.2) → ∃ q10, 0 + q10 ≤ cB ∧ wpJ7_copyOfRange_39247 q10 mu8 r2 (0 : Int32) r4 (fun r9 mu11 => ∃ x12, mS mu11 v0 = some x12 ∧ ∀ mu13, mu13 = sS mu11 v0 (some r9, x12.2.1, x12.2.2.1, x12.2.2.2) → (0 + q10) ≤ cB ∧ Post mu13)))))
set_option maxHeartbeats 4000000 in
set_option maxRecDepth 100000 in
theorem conJ0_init_db425 (l : Launch) (D : va_G) (cA : Nat → ClassId) (cB : Nat) (mu : Mu) (v0 : Nat) (v1 : Nat) (Post : Mu → Prop)  (H : wpJ0_init_db425 cB mu v0 v1 Post) {w0 ws0 : va_W} (hR : LR cA w0 ws0 mu) : ConN l D cA yJ0_init_db425 (wm yJ0_init_db425 cJ0_init_db425 5 none) { frames := 3, cells := cB, slots := 16 * cB, locals := 106 } ws0 [.ref v0, .ref v1, .null] cB (16 * cB) (PV (fun w1 => ∃ m1, LR cA w0 w1 m1 ∧ Post m1)) := by
  refine ConN.of (by decide) (Nat.le_of_ble_eq_true rfl) ?_
  intro p e s m args below meth c C hF hr hini
  refine k_eq (ws' := ws0) (lv' := [(0, .ref v0), (1, .ref v1), (2, .null)]) (st' := []) rfl rfl rfl ?_
  have H : ∃ x1, mG mu v1 = some x1 ∧ 0 ≤ cB ∧ wpJ5_getValue_6d5f1 mu v1 (fun r2 => ∃ x3, mG mu v1 = some x3 ∧ 0 ≤ cB ∧ wpJ4_length_8abf5 mu v1 (fun r4 => ∃ x5, mG mu v1 = some x5 ∧ 0 ≤ cB ∧ wpJ5_isLatin1_aae02 mu v1 (fun r6 => (r6 = 0 → False) ∧ (¬ r6 = 0 → ∃ x7, mS mu v0 = some x7 ∧ ∀ mu8, mu8 = sS mu v0 (x7.1, (0 : Int32), x7.2.2.1, x7.2.2.2) → ∃ q10, 0 + q10 ≤ cB ∧ wpJ7_copyOfRange_39247 q10 mu8 r2 (0 : Int32) r4 (fun r9 mu11 => ∃ x12, mS mu11 v0 = some x12 ∧ ∀ mu13, mu13 = sS mu11 v0 (some r9, x12.2.1, x12.2.2.1, x12.2.2.2) → (0 + q10) ≤ cB ∧ Post mu13))))) := H
  refine k_widen (k := 0) (n := 16 * 0) (Nat.le_refl _) (Nat.le_refl _) ?_
  refine k_aload_n C 0 (pc := 0) dJ0_init_db425_0 rfl rfl ?_
  refine k_objInit C (pc := 1) tW_5_201 (Nat.le_of_ble_eq_true rfl) (Nat.le_of_ble_eq_true rfl) (Nat.le_of_ble_eq_true rfl) dJ0_init_db425_1 ?_
  refine k_aload_n C 1 (pc := 4) dJ0_init_db425_4 rfl rfl ?_
  obtain ⟨x1, hx1, H⟩ := H
  obtain ⟨i1, hi1⟩ := List.getElem?_of_mem (hR.G hx1)
  obtain ⟨hc_, H⟩ := H
  refine k_callAr C (pc := 5) (l_runV C hF (As := []) (rest := []) (ci := 12) (q0 := i1) (conJ5_getValue_6d5f1 l D cA mu v1 _  H hR) ⟨k_cwB C tW_5_206 tW_5_202 tW_1_23 okJ5_getValue_6d5f1 rfl rfl ⟨Nat.le_of_ble_eq_true rfl, Nat.le_of_ble_eq_true rfl⟩, C.w tW_5_203, C.w tW_5_205⟩ hi1 rfl rfl rfl rfl (Nat.le_of_ble_eq_true rfl) dJ0_init_db425_5 ⟨hc_, (by show 16 * (0) + 0 ≤ 16 * cB; omega)⟩) (fun r2 w1 hw_ => ?_)
  obtain ⟨rfl, H⟩ := hw_
  refine k_astore_n C (pc := 8) dJ0_init_db425_8 rfl (Nat.lt_of_lt_of_le (Nat.lt_succ_self _) (Nat.le_of_ble_eq_true rfl)) (lv' := [(3, .ref r2), (0, .ref v0), (1, .ref v1), (2, .null)]) rfl ?_
  refine k_aload_n C 2 (pc := 9) dJ0_init_db425_9 rfl rfl ?_
  obtain ⟨x3, hx3, H⟩ := H
  obtain ⟨i3, hi3⟩ := List.getElem?_of_mem (hR.G hx3)
  obtain ⟨hc_, H⟩ := H
  refine k_callAi C (pc := 10) (l_runU C hF (As := []) (rest := []) (q0 := i3) (conJ4_length_8abf5 l D cA mu v1 _  H hR) (l_cwU C tW_5_212 tW_1_24 ⟨by decide, by decide⟩ okJ5_length_8abf5 tW_5_207 XW_5_209 tW_5_208 tW_5_214 tW_5_210 tW_5_211 rfl rfl ⟨Nat.le_of_ble_eq_true rfl, Nat.le_of_ble_eq_true rfl⟩) hi3 rfl rfl (Nat.le_of_ble_eq_true rfl) dJ0_init_db425_10 ⟨hc_, (by show 16 * (0) + 0 ≤ 16 * cB; omega)⟩) (fun r4 w1 hw_ => ?_)
  obtain ⟨rfl, H⟩ := hw_
  refine k_istore C (pc := 13) dJ0_init_db425_13 (Nat.lt_of_lt_of_le (Nat.lt_succ_self _) (Nat.le_of_ble_eq_true rfl)) (lv' := [(4, .int r4), (3, .ref r2), (0, .ref v0), (1, .ref v1), (2, .null)]) rfl ?_
  refine k_aload_n C 3 (pc := 15) dJ0_init_db425_15 rfl rfl ?_
  obtain ⟨x5, hx5, H⟩ := H
  obtain ⟨i5, hi5⟩ := List.getElem?_of_mem (hR.G hx5)
  obtain ⟨hc_, H⟩ := H
  refine k_callAi C (pc := 16) (l_runV C hF (As := []) (rest := []) (ci := 12) (q0 := i5) (conJ5_isLatin1_aae02 l D cA mu v1 _  H hR) ⟨k_cwB C tW_5_136 tW_5_215 tW_1_23 okJ5_isLatin1_aae02 rfl rfl ⟨Nat.le_of_ble_eq_true rfl, Nat.le_of_ble_eq_true rfl⟩, C.w tW_5_133, C.w tW_5_135⟩ hi5 rfl rfl rfl rfl (Nat.le_of_ble_eq_true rfl) dJ0_init_db425_16 ⟨hc_, (by show 16 * (0) + 0 ≤ 16 * cB; omega)⟩) (fun r6 w1 hw_ => ?_)
  obtain ⟨rfl, H⟩ := hw_
  refine k_if_eq C (pc := 19) (tgt := 41) dJ0_init_db425_19 (by decide) (fun c_19 => ?_) (fun c_19 => ?_)
  · have H := H.1 c_19
    exact H.elim
  · have H := H.2 c_19
    refine k_aload_n C 2 (pc := 22) dJ0_init_db425_22 rfl rfl ?_
    refine k_iconst C (pc := 23) (v := (0 : Int32)) dJ0_init_db425_23 rfl ?_
    obtain ⟨x7, hx7, H⟩ := H
    refine l_putFS C hR (pc := 24) hx7 1 (Nat.lt_of_lt_of_le (Nat.lt_succ_self _) (Nat.le_of_ble_eq_true rfl)) (ref := "java/lang/String") tW_6_28 rfl rfl hini rfl  (ty := .byte) rfl rfl rfl (x1 := ((x7.1, (0 : Int32), x7.2.2.1, x7.2.2.2))) rfl dJ0_init_db425_24 (fun w1 hR => ?_)
    obtain ⟨mu8, hm8⟩ : ∃ m_, m_ = sS mu v0 (x7.1, (0 : Int32), x7.2.2.1, x7.2.2.2) := ⟨_, rfl⟩
    rw [← hm8] at hR
    have H := H mu8 hm8
    refine k_aload_n C 2 (pc := 27) dJ0_init_db425_27 rfl rfl ?_
    refine k_aload_n C 1 (pc := 28) dJ0_init_db425_28 rfl rfl ?_
    refine k_iconst C (pc := 29) (v := (0 : Int32)) dJ0_init_db425_29 rfl ?_
    refine k_iload C 0 (pc := 30) dJ0_init_db425_30 rfl ?_
    obtain ⟨q10, hc_, H⟩ := H
    refine k_callAr C (pc := 32) (l_runS C hF (As := [.ref r2, .int (0 : Int32), .int r4]) (rest := [.ref v0]) (conJ7_copyOfRange_39247 l D cA q10 mu8 r2 (0 : Int32) r4 _  H hR) ⟨k_cwB C tW_5_218 tW_5_216 tW_1_26 okJ7_copyOfRange_39247 rfl rfl ⟨Nat.le_of_ble_eq_true rfl, Nat.le_of_ble_eq_true rfl⟩, C.w tW_5_217⟩ rfl rfl (Nat.le_of_ble_eq_true rfl) dJ0_init_db425_32 ⟨hc_, by show 16 * (0) + 16 * q10 ≤ 16 * cB; omega⟩) (fun r9 w1 hw_ => ?_)
    obtain ⟨mu11, hR, H⟩ := hw_
    refine k_sl ?_
    obtain ⟨x12, hx12, H⟩ := H
    refine l_putFS C hR (pc := 35) hx12 0 (Nat.lt_of_lt_of_le (Nat.lt_succ_self _) (Nat.le_of_ble_eq_true rfl)) (ref := "java/lang/String") tW_6_27 rfl rfl hini rfl  rfl rfl rfl (x1 := ((some r9, x12.2.1, x12.2.2.1, x12.2.2.2))) rfl dJ0_init_db425_35 (fun w1 hR => ?_)
    obtain ⟨mu13, hm13⟩ : ∃ m_, m_ = sS mu11 v0 (some r9, x12.2.1, x12.2.2.1, x12.2.2.2) := ⟨_, rfl⟩
    rw [← hm13] at hR
    have H := H mu13 hm13
    refine k_goto C (pc := 38) (tgt := 97) dJ0_init_db425_38 (by decide) ?_
    obtain ⟨hc_, H⟩ := H
    refine k_widen (k := cB) (n := 16 * cB) hc_ (Nat.mul_le_mul_left 16 hc_) ?_
    exact k_vret C (pc := 97) hr dJ0_init_db425_97 ⟨mu13, hR, H⟩
/-! java/lang/String.<init>(Ljava/lang/StringBuilder;)V -/
theorem dJ0_init_81219_0 : decode cJ0_init_81219 0 = .ok (.aload_n 0, 1) := by decide +kernel
theorem dJ0_init_81219_1 : decode cJ0_init_81219 1 = .ok (.aload_n 1, 1) := by decide +kernel
theorem dJ0_init_81219_2 : decode cJ0_init_81219 2 = .ok (.aconst_null, 1) := by decide +kernel
theorem dJ0_init_81219_3 : decode cJ0_init_81219 3 = .ok (.invokespecial 489, 3) := by decide +kernel
theorem dJ0_init_81219_6 : decode cJ0_init_81219 6 = .ok (.return_, 1) := by decide +kernel
theorem okJ0_init_81219 : okY yJ0_init_81219 1 := ⟨by decide +kernel, by decide +kernel, by decide +kernel⟩
def wpJ0_init_81219 (cB : Nat) (mu : Mu) (v0 : Nat) (v1 : Nat) (Post : Mu → Prop) : Prop := ∃ q2, 0 + q2 ≤ cB ∧ wpJ0_init_db425 q2 mu v0 v1 (fun mu3 => (0 + q2) ≤ cB ∧ Post mu3)
set_option maxHeartbeats 4000000 in
set_option maxRecDepth 100000 in
theorem conJ0_init_81219 (l : Launch) (D : va_G) (cA : Nat → ClassId) (cB : Nat) (mu : Mu) (v0 : Nat) (v1 : Nat) (Post : Mu → Prop)  (H : wpJ0_init_81219 cB mu v0 v1 Post) {w0 ws0 : va_W} (hR : LR cA w0 ws0 mu) : ConN l D cA yJ0_init_81219 (wm yJ0_init_81219 cJ0_init_81219 2 none) { frames := 4, cells := cB, slots := 16 * cB, locals := 130 } ws0 [.ref v0, .ref v1] cB (16 * cB) (PV (fun w1 => ∃ m1, LR cA w0 w1 m1 ∧ Post m1)) := by
  refine ConN.of (by decide) (Nat.le_of_ble_eq_true rfl) ?_
  intro p e s m args below meth c C hF hr hini
  refine k_eq (ws' := ws0) (lv' := [(0, .ref v0), (1, .ref v1)]) (st' := []) rfl rfl rfl ?_
  have H : ∃ q2, 0 + q2 ≤ cB ∧ wpJ0_init_db425 q2 mu v0 v1 (fun mu3 => (0 + q2) ≤ cB ∧ Post mu3) := H
  refine k_widen (k := 0) (n := 16 * 0) (Nat.le_refl _) (Nat.le_refl _) ?_
  refine k_aload_n C 0 (pc := 0) dJ0_init_81219_0 rfl rfl ?_
  refine k_aload_n C 1 (pc := 1) dJ0_init_81219_1 rfl rfl ?_
  refine l_null C (pc := 2) dJ0_init_81219_2 ?_
  obtain ⟨q2, hc_, H⟩ := H
  refine k_callAv C (pc := 3) (k_runIC C hF (As := [.ref v1, .null]) (rest := []) (conJ0_init_db425 l D cA q2 mu v0 v1 _  H hR) ⟨k_cwB C tW_5_200 tW_5_198 tW_1_18 okJ0_init_db425 rfl rfl ⟨Nat.le_of_ble_eq_true rfl, Nat.le_of_ble_eq_true rfl⟩, rfl, C.w tW_5_199⟩ rfl rfl (Nat.le_of_ble_eq_true rfl) dJ0_init_81219_3 ⟨hc_, by show 16 * (0) + 16 * q2 ≤ 16 * cB; omega⟩) (fun w1 hw_ => ?_)
  obtain ⟨mu3, hR, H⟩ := hw_
  refine k_sl ?_
  obtain ⟨hc_, H⟩ := H
  refine k_widen (k := cB) (n := 16 * cB) hc_ (Nat.mul_le_mul_left 16 hc_) ?_
  exact k_vret C (pc := 6) hr dJ0_init_81219_6 ⟨mu3, hR, H⟩
/-! java/lang/StringBuilder.toString()Ljava/lang/String; -/
theorem dJ4_toString_0e30d_0 : decode cJ4_toString_0e30d 0 = .ok (.new 18, 3) := by decide +kernel
theorem dJ4_toString_0e30d_3 : decode cJ4_toString_0e30d 3 = .ok (.dup, 1) := by decide +kernel
theorem dJ4_toString_0e30d_4 : decode cJ4_toString_0e30d 4 = .ok (.aload_n 0, 1) := by decide +kernel
theorem dJ4_toString_0e30d_5 : decode cJ4_toString_0e30d 5 = .ok (.invokespecial 137, 3) := by decide +kernel
theorem dJ4_toString_0e30d_8 : decode cJ4_toString_0e30d 8 = .ok (.areturn, 1) := by decide +kernel
theorem okJ4_toString_0e30d : okY yJ4_toString_0e30d 0 := ⟨by decide +kernel, by decide +kernel, by decide +kernel⟩
def wpJ4_toString_0e30d (cB : Nat) (mu : Mu) (v0 : Nat) (Post : Nat → Mu → Prop) : Prop := 0 + 1 ≤ cB ∧ ∀ a1, frM mu a1 → ∀ mu2, mu2 = sS mu a1 (none, 0, 0, 0) → ∃ q4, (0 + 1) + q4 ≤ cB ∧ wpJ0_init_81219 q4 mu2 a1 v0 (fun mu5 => ((0 + 1) + q4) ≤ cB ∧ Post a1 mu5)
set_option maxHeartbeats 4000000 in
set_option maxRecDepth 100000 in
theorem conJ4_toString_0e30d (l : Launch) (D : va_G) (cA : Nat → ClassId) (cB : Nat) (mu : Mu) (v0 : Nat) (Post : Nat → Mu → Prop)  (H : wpJ4_toString_0e30d cB mu v0 Post) {w0 ws0 : va_W} (hR : LR cA w0 ws0 mu) : ConN l D cA yJ4_toString_0e30d (wm yJ4_toString_0e30d cJ4_toString_0e30d 1 (some (.object "java/lang/String"))) { frames := 5, cells := cB, slots := 16 * cB, locals := 151 } ws0 [.ref v0] cB (16 * cB) (PR (fun r w1 => ∃ m1, LR cA w0 w1 m1 ∧ Post r m1)) := by
  refine ConN.of (by decide) (Nat.le_of_ble_eq_true rfl) ?_
  intro p e s m args below meth c C hF hr hini
  refine k_eq (ws' := ws0) (lv' := [(0, .ref v0)]) (st' := []) rfl rfl rfl ?_
  have H : 0 + 1 ≤ cB ∧ ∀ a1, frM mu a1 → ∀ mu2, mu2 = sS mu a1 (none, 0, 0, 0) → ∃ q4, (0 + 1) + q4 ≤ cB ∧ wpJ0_init_81219 q4 mu2 a1 v0 (fun mu5 => ((0 + 1) + q4) ≤ cB ∧ Post a1 mu5) := H
  refine k_widen (k := 0) (n := 16 * 0) (Nat.le_refl _) (Nat.le_refl _) ?_
  obtain ⟨hc_, H⟩ := H
  refine l_newS C hR (u := 0) (pc := 0) tW_5_193 tW_5_194 tW_1_18 hc_ (Nat.mul_le_mul_left 16 hc_) dJ4_toString_0e30d_0 (fun a1 w1 hf_ hR => ?_)
  have H := H a1 hf_
  obtain ⟨mu2, hm2⟩ : ∃ m_, m_ = sS mu a1 (none, 0, 0, 0) := ⟨_, rfl⟩
  rw [← hm2] at hR
  have H := H mu2 hm2
  refine k_dup C (pc := 3) dJ4_toString_0e30d_3 rfl ?_
  refine k_aload_n C 0 (pc := 4) dJ4_toString_0e30d_4 rfl rfl ?_
  obtain ⟨q4, hc_, H⟩ := H
  refine k_callAv C (pc := 5) (k_runIC C hF (As := [.ref v0]) (rest := [.ref a1]) (conJ0_init_81219 l D cA q4 mu2 a1 v0 _  H hR) ⟨k_cwB C tW_5_197 tW_5_195 tW_1_18 okJ0_init_81219 rfl rfl ⟨Nat.le_of_ble_eq_true rfl, Nat.le_of_ble_eq_true rfl⟩, rfl, C.w tW_5_196⟩ rfl rfl (Nat.le_of_ble_eq_true rfl) dJ4_toString_0e30d_5 ⟨hc_, by show 16 * (0 + 1) + 16 * q4 ≤ 16 * cB; omega⟩) (fun w1 hw_ => ?_)
  obtain ⟨mu5, hR, H⟩ := hw_
  refine k_sl ?_
  obtain ⟨hc_, H⟩ := H
  refine k_widen (k := cB) (n := 16 * cB) hc_ (Nat.mul_le_mul_left 16 hc_) ?_
  exact k_aret C (pc := 8) hr (Or.inl ⟨_, rfl⟩) dJ4_toString_0e30d_8 ⟨mu5, hR, H⟩
/-! java/lang/String.coder()B -/
def wpJ0_coder_7d493_D (mu : Mu) (v0 : Nat) (Post : Int32 → Prop) : Prop := ∃ x1, mS mu v0 = some x1 ∧ narrow .byte (.int x1.2.1) = .int x1.2.1 ∧ Post x1.2.1
set_option maxHeartbeats 4000000 in
set_option maxRecDepth 100000 in
theorem conJ0_coder_7d493_D (l : Launch) (D : va_G) (cA : Nat → ClassId) (mu : Mu) (v0 : Nat) (Post : Int32 → Prop)  (H : wpJ0_coder_7d493_D mu v0 Post) {w0 ws0 : va_W} (hR : LR cA w0 ws0 mu) : ConN l D cA yJ0_coder_7d493 (wm yJ0_coder_7d493 cJ0_coder_7d493 1 (some .byte)) { frames := 0, cells := 0, slots := 0, locals := 0 } ws0 [.ref v0] 0 0 (PI (fun r w1 => w1 = ws0 ∧ Post r)) := by
  refine ConN.of (by decide) (Nat.le_of_ble_eq_true rfl) ?_
  intro p e s m args below meth c C hF hr hini
  refine k_eq (ws' := ws0) (lv' := [(0, .ref v0)]) (st' := []) rfl rfl rfl ?_
  have H : ∃ x1, mS mu v0 = some x1 ∧ narrow .byte (.int x1.2.1) = .int x1.2.1 ∧ Post x1.2.1 := H
  refine k_gets C (pc := 0) (v := .int 1) C.2.1.2.2.2.2.2.1 tW_3_39 rfl dJ0_coder_7d493_0 ?_
  refine k_if_eq C (pc := 3) (tgt := 13) dJ0_coder_7d493_3 (by decide) (fun c_ => absurd c_ (by decide)) (fun _ => ?_)
  refine k_aload_n C 0 (pc := 6) dJ0_coder_7d493_6 rfl rfl ?_
  obtain ⟨x1, hx1, H⟩ := H
  refine l_getS C hR (pc := 7) hx1 1 (Nat.lt_of_lt_of_le (Nat.lt_succ_self _) (Nat.le_of_ble_eq_true rfl)) (ref := "java/lang/String") tW_6_28 rfl (v := .int x1.2.1) rfl dJ0_coder_7d493_7 ?_
  refine k_goto C (pc := 10) (tgt := 14) dJ0_coder_7d493_10 (by decide) ?_
  exact k_zret C (pc := 14) hr H.1 dJ0_coder_7d493_14 ⟨rfl, H.2⟩
/-! java/lang/String.isLatin1()Z -/
def wpJ0_isLatin1_aae02_D (mu : Mu) (v0 : Nat) (Post : Int32 → Prop) : Prop := ∃ x1, mS mu v0 = some x1 ∧ (¬ x1.2.1 = 0 → Post (0 : Int32)) ∧ (x1.2.1 = 0 → Post (1 : Int32))
set_option maxHeartbeats 4000000 in
set_option maxRecDepth 100000 in
theorem conJ0_isLatin1_aae02_D (l : Launch) (D : va_G) (cA : Nat → ClassId) (mu : Mu) (v0 : Nat) (Post : Int32 → Prop)  (H : wpJ0_isLatin1_aae02_D mu v0 Post) {w0 ws0 : va_W} (hR : LR cA w0 ws0 mu) : ConN l D cA yJ0_isLatin1_aae02 (wm yJ0_isLatin1_aae02 cJ0_isLatin1_aae02 1 (some .boolean)) { frames := 0, cells := 0, slots := 0, locals := 0 } ws0 [.ref v0] 0 0 (PI (fun r w1 => w1 = ws0 ∧ Post r)) := by
  refine ConN.of (by decide) (Nat.le_of_ble_eq_true rfl) ?_
  intro p e s m args below meth c C hF hr hini
  refine k_eq (ws' := ws0) (lv' := [(0, .ref v0)]) (st' := []) rfl rfl rfl ?_
  have H : ∃ x1, mS mu v0 = some x1 ∧ (¬ x1.2.1 = 0 → Post (0 : Int32)) ∧ (x1.2.1 = 0 → Post (1 : Int32)) := H
  refine k_gets C (pc := 0) (v := .int 1) C.2.1.2.2.2.2.2.1 tW_3_39 rfl dJ0_isLatin1_aae02_0 ?_
  refine k_if_eq C (pc := 3) (tgt := 17) dJ0_isLatin1_aae02_3 (by decide) (fun c_ => absurd c_ (by decide)) (fun _ => ?_)
  refine k_aload_n C 0 (pc := 6) dJ0_isLatin1_aae02_6 rfl rfl ?_
  obtain ⟨x1, hx1, H⟩ := H
  refine l_getS C hR (pc := 7) hx1 1 (Nat.lt_of_lt_of_le (Nat.lt_succ_self _) (Nat.le_of_ble_eq_true rfl)) (ref := "java/lang/String") tW_6_28 rfl (v := .int x1.2.1) rfl dJ0_isLatin1_aae02_7 ?_
  refine k_if_ne C (pc := 10) (tgt := 17) dJ0_isLatin1_aae02_10 (by decide) (fun c_10 => ?_) (fun c_10 => ?_)
  · have H := H.1 c_10
    refine k_iconst C (pc := 17) (v := (0 : Int32)) dJ0_isLatin1_aae02_17 rfl ?_
    exact k_zret C (pc := 18) hr rfl dJ0_isLatin1_aae02_18 ⟨rfl, H⟩
  · have H := H.2 c_10
    refine k_iconst C (pc := 13) (v := (1 : Int32)) dJ0_isLatin1_aae02_13 rfl ?_
    refine k_goto C (pc := 14) (tgt := 18) dJ0_isLatin1_aae02_14 (by decide) ?_
    exact k_zret C (pc := 18) hr rfl dJ0_isLatin1_aae02_18 ⟨rfl, H⟩
/-! java/lang/String.length()I -/
def wpJ0_length_8abf5_D (mu : Mu) (v0 : Nat) (Post : Int32 → Prop) : Prop := ∃ x1, mS mu v0 = some x1 ∧ ∃ a1, x1.1 = some a1 ∧ ∃ n2 f2, mT mu a1 = some (n2, f2) ∧ ∃ x3, mS mu v0 = some x3 ∧ wpJ0_coder_7d493_D mu v0 (fun r4 => Post ((nI n2) >>> (r4 &&& 31)))
set_option maxHeartbeats 4000000 in
set_option maxRecDepth 100000 in
theorem conJ0_length_8abf5_D (l : Launch) (D : va_G) (cA : Nat → ClassId) (mu : Mu) (v0 : Nat) (Post : Int32 → Prop)  (H : wpJ0_length_8abf5_D mu v0 Post) {w0 ws0 : va_W} (hR : LR cA w0 ws0 mu) : ConN l D cA yJ0_length_8abf5 (wm yJ0_length_8abf5 cJ0_length_8abf5 1 (some .int)) { frames := 1, cells := 0, slots := 0, locals := 20 } ws0 [.ref v0] 0 0 (PI (fun r w1 => w1 = ws0 ∧ Post r)) := by
  refine ConN.of (by decide) (Nat.le_of_ble_eq_true rfl) ?_
  intro p e s m args below meth c C hF hr hini
  refine k_eq (ws' := ws0) (lv' := [(0, .ref v0)]) (st' := []) rfl rfl rfl ?_
  have H : ∃ x1, mS mu v0 = some x1 ∧ ∃ a1, x1.1 = some a1 ∧ ∃ n2 f2, mT mu a1 = some (n2, f2) ∧ ∃ x3, mS mu v0 = some x3 ∧ wpJ0_coder_7d493_D mu v0 (fun r4 => Post ((nI n2) >>> (r4 &&& 31))) := H
  refine k_aload_n C 0 (pc := 0) dJ0_length_8abf5_0 rfl rfl ?_
  obtain ⟨x1, hx1, H⟩ := H
  obtain ⟨a1, ha1, H⟩ := H
  refine l_getS C hR (pc := 1) hx1 0 (Nat.lt_of_lt_of_le (Nat.lt_succ_self _) (Nat.le_of_ble_eq_true rfl)) (ref := "java/lang/String") tW_6_27 rfl (v := .ref a1) (by show some (va_rf x1.1) = _; rw [ha1]; rfl) dJ0_length_8abf5_1 ?_
  obtain ⟨n2, f2, hx_, H⟩ := H
  refine l_alenT C hR (pc := 4) hx_ dJ0_length_8abf5_4 ?_
  refine k_aload_n C 0 (pc := 5) dJ0_length_8abf5_5 rfl rfl ?_
  obtain ⟨x3, hx3, H⟩ := H
  obtain ⟨i3, hi3⟩ := List.getElem?_of_mem (hR.S hx3)
  refine k_callAi C (pc := 6) (l_runV C hF (As := []) (rest := [.int (nI n2)]) (ci := 11) (q0 := i3) (conJ0_coder_7d493_D l D cA mu v0 _  H hR) ⟨k_cwB C tW_3_38 tW_3_35 tW_1_18 okJ0_coder_7d493 rfl rfl ⟨Nat.le_of_ble_eq_true rfl, Nat.le_of_ble_eq_true rfl⟩, C.w tW_3_36, C.w tW_3_37⟩ hi3 rfl rfl rfl rfl (Nat.le_of_ble_eq_true rfl) dJ0_length_8abf5_6 ⟨Nat.le_of_ble_eq_true rfl, Nat.le_of_ble_eq_true rfl⟩) (fun r4 w1 hw_ => ?_)
  obtain ⟨rfl, H⟩ := hw_
  refine k_ishr C (pc := 9) dJ0_length_8abf5_9 ?_
  exact k_iret C (pc := 10) hr dJ0_length_8abf5_10 ⟨rfl, H⟩
/-! java/lang/StringLatin1.charAt([BI)C -/
def wpJ1_charAt_3b067_D (mu : Mu) (v0 : Nat) (v1 : Int32) (Post : Int32 → Prop) : Prop := ∃ n1 f1, mT mu v0 = some (n1, f1) ∧ ¬ v1 < 0 ∧ v1 < (nI n1) ∧ ∃ n2 f2 k2, mT mu v0 = some (n2, f2) ∧ v1 = nI k2 ∧ k2 < n2 ∧ n2 ≤ 1000 ∧ narrow .char (.int ((((f2 k2) &&& (255 : Int32)).toUInt32 % 65536).toInt32)) = .int ((((f2 k2) &&& (255 : Int32)).toUInt32 % 65536).toInt32) ∧ Post ((((f2 k2) &&& (255 : Int32)).toUInt32 % 65536).toInt32)
set_option maxHeartbeats 4000000 in
set_option maxRecDepth 100000 in
theorem conJ1_charAt_3b067_D (l : Launch) (D : va_G) (cA : Nat → ClassId) (mu : Mu) (v0 : Nat) (v1 : Int32) (Post : Int32 → Prop)  (H : wpJ1_charAt_3b067_D mu v0 v1 Post) {w0 ws0 : va_W} (hR : LR cA w0 ws0 mu) : ConN l D cA yJ1_charAt_3b067 (wm yJ1_charAt_3b067 cJ1_charAt_3b067 2 (some .char)) { frames := 2, cells := 0, slots := 0, locals := 43 } ws0 [.ref v0, .int v1] 0 0 (PI (fun r w1 => w1 = ws0 ∧ Post r)) := by
  refine ConN.of (by decide) (Nat.le_of_ble_eq_true rfl) ?_
  intro p e s m args below meth c C hF hr hini
  refine k_eq (ws' := ws0) (lv' := [(0, .ref v0), (1, .int v1)]) (st' := []) rfl rfl rfl ?_
  have H : ∃ n1 f1, mT mu v0 = some (n1, f1) ∧ ¬ v1 < 0 ∧ v1 < (nI n1) ∧ ∃ n2 f2 k2, mT mu v0 = some (n2, f2) ∧ v1 = nI k2 ∧ k2 < n2 ∧ n2 ≤ 1000 ∧ narrow .char (.int ((((f2 k2) &&& (255 : Int32)).toUInt32 % 65536).toInt32)) = .int ((((f2 k2) &&& (255 : Int32)).toUInt32 % 65536).toInt32) ∧ Post ((((f2 k2) &&& (255 : Int32)).toUInt32 % 65536).toInt32) := H
  refine k_iload_n C 1 (pc := 0) dJ1_charAt_3b067_0 rfl rfl ?_
  refine k_aload_n C 0 (pc := 1) dJ1_charAt_3b067_1 rfl rfl ?_
  obtain ⟨n1, f1, hx_, H⟩ := H
  refine l_alenT C hR (pc := 2) hx_ dJ1_charAt_3b067_2 ?_
  obtain ⟨h0_, h1_, H⟩ := H
  refine k_callPv C (pc := 3) [] (wc := []) rfl rfl (k_runS C (As := [.int v1, .int (nI n1)]) (rest := []) (conJ0_checkIndex_df160 l D cA v1 (nI n1) h0_ h1_) ⟨k_cwB C tW_3_54 tW_3_52 tW_1_18 okJ0_checkIndex_df160 rfl rfl ⟨Nat.le_of_ble_eq_true rfl, Nat.le_of_ble_eq_true rfl⟩, C.w tW_3_53⟩ rfl rfl (Nat.le_of_ble_eq_true rfl) dJ1_charAt_3b067_3 ⟨Nat.le_of_ble_eq_true rfl, Nat.le_of_ble_eq_true rfl⟩) (fun _ h_ => by subst h_; rfl) (fun w1_ hw_ => ?_)
  subst hw_
  refine k_eq (pc := 6) setAll_nil rfl rfl ?_
  refine k_aload_n C 0 (pc := 6) dJ1_charAt_3b067_6 rfl rfl ?_
  refine k_iload_n C 1 (pc := 7) dJ1_charAt_3b067_7 rfl rfl ?_
  obtain ⟨n2, f2, k2, hx_, hk_, hl_, hn_, H⟩ := H
  refine k_eq (pc := 8) (st' := [.int (nI k2), .ref v0]) rfl rfl (by rw [hk_]) ?_
  refine l_bald C hR (pc := 8) hx_ hl_ hn_ dJ1_charAt_3b067_8 ?_
  refine k_sipush C (pc := 9) (v := (255 : Int32)) dJ1_charAt_3b067_9 (by decide) ?_
  refine k_iand C (pc := 12) dJ1_charAt_3b067_12 ?_
  refine k_i2c C (pc := 13) dJ1_charAt_3b067_13 rfl ?_
  exact k_zret C (pc := 14) hr H.1 dJ1_charAt_3b067_14 ⟨rfl, H.2⟩
/-! java/lang/String.charAt(I)C -/
def wpJ0_charAt_5068e_D (mu : Mu) (v0 : Nat) (v1 : Int32) (Post : Int32 → Prop) : Prop := ∃ x1, mS mu v0 = some x1 ∧ wpJ0_isLatin1_aae02_D mu v0 (fun r2 => (r2 = 0 → False) ∧ (¬ r2 = 0 → ∃ x3, mS mu v0 = some x3 ∧ ∃ a3, x3.1 = some a3 ∧ wpJ1_charAt_3b067_D mu a3 v1 (fun r4 => narrow .char (.int r4) = .int r4 ∧ Post r4)))
set_option maxHeartbeats 4000000 in
set_option maxRecDepth 100000 in
theorem conJ0_charAt_5068e_D (l : Launch) (D : va_G) (cA : Nat → ClassId) (mu : Mu) (v0 : Nat) (v1 : Int32) (Post : Int32 → Prop)  (H : wpJ0_charAt_5068e_D mu v0 v1 Post) {w0 ws0 : va_W} (hR : LR cA w0 ws0 mu) : ConN l D cA yJ0_charAt_5068e (wm yJ0_charAt_5068e cJ0_charAt_5068e 2 (some .char)) { frames := 3, cells := 0, slots := 0, locals := 64 } ws0 [.ref v0, .int v1] 0 0 (PI (fun r w1 => w1 = ws0 ∧ Post r)) := by
  refine ConN.of (by decide) (Nat.le_of_ble_eq_true rfl) ?_
  intro p e s m args below meth c C hF hr hini
  refine k_eq (ws' := ws0) (lv' := [(0, .ref v0), (1, .int v1)]) (st' := []) rfl rfl rfl ?_
  have H : ∃ x1, mS mu v0 = some x1 ∧ wpJ0_isLatin1_aae02_D mu v0 (fun r2 => (r2 = 0 → False) ∧ (¬ r2 = 0 → ∃ x3, mS mu v0 = some x3 ∧ ∃ a3, x3.1 = some a3 ∧ wpJ1_charAt_3b067_D mu a3 v1 (fun r4 => narrow .char (.int r4) = .int r4 ∧ Post r4))) := H
  refine k_aload_n C 0 (pc := 0) dJ0_charAt_5068e_0 rfl rfl ?_
  obtain ⟨x1, hx1, H⟩ := H
  obtain ⟨i1, hi1⟩ := List.getElem?_of_mem (hR.S hx1)
  refine k_callAi C (pc := 1) (l_runV C hF (As := []) (rest := []) (ci := 11) (q0 := i1) (conJ0_isLatin1_aae02_D l D cA mu v0 _  H hR) ⟨k_cwB C tW_3_48 tW_3_45 tW_1_18 okJ0_isLatin1_aae02 rfl rfl ⟨Nat.le_of_ble_eq_true rfl, Nat.le_of_ble_eq_true rfl⟩, C.w tW_3_46, C.w tW_3_47⟩ hi1 rfl rfl rfl rfl (Nat.le_of_ble_eq_true rfl) dJ0_charAt_5068e_1 ⟨Nat.le_of_ble_eq_true rfl, Nat.le_of_ble_eq_true rfl⟩) (fun r2 w1 hw_ => ?_)
  obtain ⟨rfl, H⟩ := hw_
  refine k_if_eq C (pc := 4) (tgt := 16) dJ0_charAt_5068e_4 (by decide) (fun c_4 => ?_) (fun c_4 => ?_)
  · have H := H.1 c_4
    exact H.elim
  · have H := H.2 c_4
    refine k_aload_n C 0 (pc := 7) dJ0_charAt_5068e_7 rfl rfl ?_
    obtain ⟨x3, hx3, H⟩ := H
    obtain ⟨a3, ha3, H⟩ := H
    refine l_getS C hR (pc := 8) hx3 0 (Nat.lt_of_lt_of_le (Nat.lt_succ_self _) (Nat.le_of_ble_eq_true rfl)) (ref := "java/lang/String") tW_6_27 rfl (v := .ref a3) (by show some (va_rf x3.1) = _; rw [ha3]; rfl) dJ0_charAt_5068e_8 ?_
    refine k_iload_n C 1 (pc := 11) dJ0_charAt_5068e_11 rfl rfl ?_
    refine k_callAi C (pc := 12) (l_runS C hF (As := [.ref a3, .int v1]) (rest := []) (conJ1_charAt_3b067_D l D cA mu a3 v1 _  H hR) ⟨k_cwB C tW_3_51 tW_3_49 tW_1_19 okJ1_charAt_3b067 rfl rfl ⟨Nat.le_of_ble_eq_true rfl, Nat.le_of_ble_eq_true rfl⟩, C.w tW_3_50⟩ rfl rfl (Nat.le_of_ble_eq_true rfl) dJ0_charAt_5068e_12 ⟨Nat.le_of_ble_eq_true rfl, Nat.le_of_ble_eq_true rfl⟩) (fun r4 w1 hw_ => ?_)
    obtain ⟨rfl, H⟩ := hw_
    exact k_zret C (pc := 15) hr H.1 dJ0_charAt_5068e_15 ⟨rfl, H.2⟩
