/-! WidowWatchLaw$Random.<init>(I)V -/
theorem dX10_init_0 : decode cX10_init 0 = .ok (.aload_n 0, 1) := by decide +kernel
theorem dX10_init_1 : decode cX10_init 1 = .ok (.invokespecial 1, 3) := by decide +kernel
theorem dX10_init_4 : decode cX10_init 4 = .ok (.aload_n 0, 1) := by decide +kernel
theorem dX10_init_5 : decode cX10_init 5 = .ok (.iload_n 1, 1) := by decide +kernel
theorem dX10_init_6 : decode cX10_init 6 = .ok (.putfield 7, 3) := by decide +kernel
theorem dX10_init_9 : decode cX10_init 9 = .ok (.return_, 1) := by decide +kernel
theorem okX10_init : okY yX10_init 1 := ⟨by decide +kernel, by decide +kernel, by decide +kernel⟩
def wpX10_init (mu : Mu) (v0 : Nat) (v1 : Int32) (Post : Mu → Prop) : Prop := ∃ x1, mR mu v0 = some x1 ∧ ∀ mu2, mu2 = sR mu v0 v1 → Post mu2
set_option maxHeartbeats 4000000 in
set_option maxRecDepth 100000 in
theorem conX10_init (l : Launch) (D : va_G) (cA : Nat → ClassId) (mu : Mu) (v0 : Nat) (v1 : Int32) (Post : Mu → Prop)  (H : wpX10_init mu v0 v1 Post) {w0 ws0 : va_W} (hR : LR cA w0 ws0 mu) : ConN l D cA yX10_init (wm yX10_init cX10_init 2 none) { frames := 1, cells := 0, slots := 0, locals := 20 } ws0 [.ref v0, .int v1] 0 0 (PV (fun w1 => ∃ m1, LR cA w0 w1 m1 ∧ Post m1)) := by
  refine ConN.of (by decide) (Nat.le_of_ble_eq_true rfl) ?_
  intro p e s m args below meth c C hF hr hini
  refine k_eq (ws' := ws0) (lv' := [(0, .ref v0), (1, .int v1)]) (st' := []) rfl rfl rfl ?_
  have H : ∃ x1, mR mu v0 = some x1 ∧ ∀ mu2, mu2 = sR mu v0 v1 → Post mu2 := H
  refine k_aload_n C 0 (pc := 0) dX10_init_0 rfl rfl ?_
  refine k_objInit C (pc := 1) tW_2_162 (Nat.le_of_ble_eq_true rfl) (Nat.le_of_ble_eq_true rfl) (Nat.le_of_ble_eq_true rfl) dX10_init_1 ?_
  refine k_aload_n C 0 (pc := 4) dX10_init_4 rfl rfl ?_
  refine k_iload_n C 1 (pc := 5) dX10_init_5 rfl rfl ?_
  obtain ⟨x1, hx1, H⟩ := H
  refine l_putR C hR (pc := 6) hx1 0 (Nat.lt_of_lt_of_le (Nat.lt_succ_self _) (Nat.le_of_ble_eq_true rfl)) (ref := "WidowWatchLaw$Random") tW_2_163 rfl rfl  (ty := .int) rfl rfl rfl (x1 := (v1)) rfl dX10_init_6 (fun w1 hR => ?_)
  obtain ⟨mu2, hm2⟩ : ∃ m_, m_ = sR mu v0 v1 := ⟨_, rfl⟩
  rw [← hm2] at hR
  have H := H mu2 hm2
  exact k_vret C (pc := 9) hr dX10_init_9 ⟨mu2, hR, H⟩
/-! WidowWatchLaw$Random.below(I)I -/
theorem dX10_below_0 : decode cX10_below 0 = .ok (.aload_n 0, 1) := by decide +kernel
theorem dX10_below_1 : decode cX10_below 1 = .ok (.ldc 13, 2) := by decide +kernel
theorem dX10_below_3 : decode cX10_below 3 = .ok (.aload_n 0, 1) := by decide +kernel
theorem dX10_below_4 : decode cX10_below 4 = .ok (.getfield 7, 3) := by decide +kernel
theorem dX10_below_7 : decode cX10_below 7 = .ok (.imul, 1) := by decide +kernel
theorem dX10_below_8 : decode cX10_below 8 = .ok (.sipush 12345, 3) := by decide +kernel
theorem dX10_below_11 : decode cX10_below 11 = .ok (.iadd, 1) := by decide +kernel
theorem dX10_below_12 : decode cX10_below 12 = .ok (.putfield 7, 3) := by decide +kernel
theorem dX10_below_15 : decode cX10_below 15 = .ok (.aload_n 0, 1) := by decide +kernel
theorem dX10_below_16 : decode cX10_below 16 = .ok (.getfield 7, 3) := by decide +kernel
theorem dX10_below_19 : decode cX10_below 19 = .ok (.bipush 16, 2) := by decide +kernel
theorem dX10_below_21 : decode cX10_below 21 = .ok (.iushr, 1) := by decide +kernel
theorem dX10_below_22 : decode cX10_below 22 = .ok (.iload_n 1, 1) := by decide +kernel
theorem dX10_below_23 : decode cX10_below 23 = .ok (.irem, 1) := by decide +kernel
theorem dX10_below_24 : decode cX10_below 24 = .ok (.ireturn, 1) := by decide +kernel
theorem okX10_below : okY yX10_below 1 := ⟨by decide +kernel, by decide +kernel, by decide +kernel⟩
def wpX10_below (mu : Mu) (v0 : Nat) (v1 : Int32) (Post : Int32 → Mu → Prop) : Prop := ∃ x1, mR mu v0 = some x1 ∧ ∃ x2, mR mu v0 = some x2 ∧ ∀ mu3, mu3 = sR mu v0 (((1103515245 : Int32) * x1) + (12345 : Int32)) → ∃ x4, mR mu3 v0 = some x4 ∧ ¬ v1 = 0 ∧ Post (((x4.toUInt32 >>> ((16 : Int32).toUInt32 &&& Int32.toUInt32 31)).toInt32) - ((x4.toUInt32 >>> ((16 : Int32).toUInt32 &&& Int32.toUInt32 31)).toInt32) / v1 * v1) mu3
set_option maxHeartbeats 4000000 in
set_option maxRecDepth 100000 in
theorem conX10_below (l : Launch) (D : va_G) (cA : Nat → ClassId) (mu : Mu) (v0 : Nat) (v1 : Int32) (Post : Int32 → Mu → Prop)  (H : wpX10_below mu v0 v1 Post) {w0 ws0 : va_W} (hR : LR cA w0 ws0 mu) : ConN l D cA yX10_below (wm yX10_below cX10_below 2 (some .int)) { frames := 0, cells := 0, slots := 0, locals := 0 } ws0 [.ref v0, .int v1] 0 0 (PI (fun r w1 => ∃ m1, LR cA w0 w1 m1 ∧ Post r m1)) := by
  refine ConN.of (by decide) (Nat.le_of_ble_eq_true rfl) ?_
  intro p e s m args below meth c C hF hr hini
  refine k_eq (ws' := ws0) (lv' := [(0, .ref v0), (1, .int v1)]) (st' := []) rfl rfl rfl ?_
  have H : ∃ x1, mR mu v0 = some x1 ∧ ∃ x2, mR mu v0 = some x2 ∧ ∀ mu3, mu3 = sR mu v0 (((1103515245 : Int32) * x1) + (12345 : Int32)) → ∃ x4, mR mu3 v0 = some x4 ∧ ¬ v1 = 0 ∧ Post (((x4.toUInt32 >>> ((16 : Int32).toUInt32 &&& Int32.toUInt32 31)).toInt32) - ((x4.toUInt32 >>> ((16 : Int32).toUInt32 &&& Int32.toUInt32 31)).toInt32) / v1 * v1) mu3 := H
  refine k_aload_n C 0 (pc := 0) dX10_below_0 rfl rfl ?_
  refine k_ldc C (pc := 1) (v := (1103515245 : Int32)) tW_2_171 dX10_below_1 ?_
  refine k_aload_n C 0 (pc := 3) dX10_below_3 rfl rfl ?_
  obtain ⟨x1, hx1, H⟩ := H
  refine l_getR C hR (pc := 4) hx1 0 (Nat.lt_of_lt_of_le (Nat.lt_succ_self _) (Nat.le_of_ble_eq_true rfl)) (ref := "WidowWatchLaw$Random") tW_2_163 rfl (v := .int x1) rfl dX10_below_4 ?_
  refine k_imul C (pc := 7) dX10_below_7 ?_
  refine k_sipush C (pc := 8) (v := (12345 : Int32)) dX10_below_8 (by decide) ?_
  refine k_iadd C (pc := 11) dX10_below_11 ?_
  obtain ⟨x2, hx2, H⟩ := H
  refine l_putR C hR (pc := 12) hx2 0 (Nat.lt_of_lt_of_le (Nat.lt_succ_self _) (Nat.le_of_ble_eq_true rfl)) (ref := "WidowWatchLaw$Random") tW_2_163 rfl rfl  (ty := .int) rfl rfl rfl (x1 := (((1103515245 : Int32) * x1) + (12345 : Int32))) rfl dX10_below_12 (fun w1 hR => ?_)
  obtain ⟨mu3, hm3⟩ : ∃ m_, m_ = sR mu v0 (((1103515245 : Int32) * x1) + (12345 : Int32)) := ⟨_, rfl⟩
  rw [← hm3] at hR
  have H := H mu3 hm3
  refine k_aload_n C 0 (pc := 15) dX10_below_15 rfl rfl ?_
  obtain ⟨x4, hx4, H⟩ := H
  refine l_getR C hR (pc := 16) hx4 0 (Nat.lt_of_lt_of_le (Nat.lt_succ_self _) (Nat.le_of_ble_eq_true rfl)) (ref := "WidowWatchLaw$Random") tW_2_163 rfl (v := .int x4) rfl dX10_below_16 ?_
  refine k_bipush C (pc := 19) (v := (16 : Int32)) dX10_below_19 (by decide) ?_
  refine l_iushr C (pc := 21) dX10_below_21 rfl ?_
  refine k_iload_n C 1 (pc := 22) dX10_below_22 rfl rfl ?_
  obtain ⟨hn_, H⟩ := H
  refine k_irem C (pc := 23) dX10_below_23 hn_ ?_
  exact k_iret C (pc := 24) hr dX10_below_24 ⟨mu3, hR, H⟩
/-! WidowWatchLaw$Para.<init>()V -/
theorem dX8_init_0 : decode cX8_init 0 = .ok (.aload_n 0, 1) := by decide +kernel
theorem dX8_init_1 : decode cX8_init 1 = .ok (.invokespecial 1, 3) := by decide +kernel
theorem dX8_init_4 : decode cX8_init 4 = .ok (.aload_n 0, 1) := by decide +kernel
theorem dX8_init_5 : decode cX8_init 5 = .ok (.iconst (-1), 1) := by decide +kernel
theorem dX8_init_6 : decode cX8_init 6 = .ok (.putfield 7, 3) := by decide +kernel
theorem dX8_init_9 : decode cX8_init 9 = .ok (.aload_n 0, 1) := by decide +kernel
theorem dX8_init_10 : decode cX8_init 10 = .ok (.iconst 0, 1) := by decide +kernel
theorem dX8_init_11 : decode cX8_init 11 = .ok (.newarray .int, 2) := by decide +kernel
theorem dX8_init_13 : decode cX8_init 13 = .ok (.putfield 13, 3) := by decide +kernel
theorem dX8_init_16 : decode cX8_init 16 = .ok (.return_, 1) := by decide +kernel
theorem okX8_init : okY yX8_init 0 := ⟨by decide +kernel, by decide +kernel, by decide +kernel⟩
def wpX8_init (cB : Nat) (mu : Mu) (v0 : Nat) (Post : Mu → Prop) : Prop := ∃ x1, mP mu v0 = some x1 ∧ ∀ mu2, mu2 = sP mu v0 (x1.1, x1.2.1, (-1 : Int32), x1.2.2.2) → ∃ n3, (0 : Int32) = nI n3 ∧ n3 ≤ 1000 ∧ 0 + (1 + n3 / 16) ≤ cB ∧ ∀ a3, frM mu2 a3 → ∀ mu4, mu4 = sI mu2 a3 (n3, fun _ => 0) → ∃ x5, mP mu4 v0 = some x5 ∧ ∀ mu6, mu6 = sP mu4 v0 (x5.1, x5.2.1, x5.2.2.1, some a3) → (0 + (1 + n3 / 16)) ≤ cB ∧ Post mu6
set_option maxHeartbeats 4000000 in
set_option maxRecDepth 100000 in
theorem conX8_init (l : Launch) (D : va_G) (cA : Nat → ClassId) (cB : Nat) (mu : Mu) (v0 : Nat) (Post : Mu → Prop)  (H : wpX8_init cB mu v0 Post) {w0 ws0 : va_W} (hR : LR cA w0 ws0 mu) : ConN l D cA yX8_init (wm yX8_init cX8_init 1 none) { frames := 1, cells := cB, slots := 16 * cB, locals := 20 } ws0 [.ref v0] cB (16 * cB) (PV (fun w1 => ∃ m1, LR cA w0 w1 m1 ∧ Post m1)) := by
  refine ConN.of (by decide) (Nat.le_of_ble_eq_true rfl) ?_
  intro p e s m args below meth c C hF hr hini
  refine k_eq (ws' := ws0) (lv' := [(0, .ref v0)]) (st' := []) rfl rfl rfl ?_
  have H : ∃ x1, mP mu v0 = some x1 ∧ ∀ mu2, mu2 = sP mu v0 (x1.1, x1.2.1, (-1 : Int32), x1.2.2.2) → ∃ n3, (0 : Int32) = nI n3 ∧ n3 ≤ 1000 ∧ 0 + (1 + n3 / 16) ≤ cB ∧ ∀ a3, frM mu2 a3 → ∀ mu4, mu4 = sI mu2 a3 (n3, fun _ => 0) → ∃ x5, mP mu4 v0 = some x5 ∧ ∀ mu6, mu6 = sP mu4 v0 (x5.1, x5.2.1, x5.2.2.1, some a3) → (0 + (1 + n3 / 16)) ≤ cB ∧ Post mu6 := H
  refine k_widen (k := 0) (n := 16 * 0) (Nat.le_refl _) (Nat.le_refl _) ?_
  refine k_aload_n C 0 (pc := 0) dX8_init_0 rfl rfl ?_
  refine k_objInit C (pc := 1) tW_2_121 (Nat.le_of_ble_eq_true rfl) (Nat.le_of_ble_eq_true rfl) (Nat.le_of_ble_eq_true rfl) dX8_init_1 ?_
  refine k_aload_n C 0 (pc := 4) dX8_init_4 rfl rfl ?_
  refine k_iconst C (pc := 5) (v := (-1 : Int32)) dX8_init_5 rfl ?_
  obtain ⟨x1, hx1, H⟩ := H
  refine l_putP C hR (pc := 6) hx1 2 (Nat.lt_of_lt_of_le (Nat.lt_succ_self _) (Nat.le_of_ble_eq_true rfl)) (ref := "WidowWatchLaw$Para") tW_2_128 rfl rfl  (ty := .int) rfl rfl rfl (x1 := ((x1.1, x1.2.1, (-1 : Int32), x1.2.2.2))) rfl dX8_init_6 (fun w1 hR => ?_)
  obtain ⟨mu2, hm2⟩ : ∃ m_, m_ = sP mu v0 (x1.1, x1.2.1, (-1 : Int32), x1.2.2.2) := ⟨_, rfl⟩
  rw [← hm2] at hR
  have H := H mu2 hm2
  refine k_aload_n C 0 (pc := 9) dX8_init_9 rfl rfl ?_
  refine k_iconst C (pc := 10) (v := (0 : Int32)) dX8_init_10 rfl ?_
  obtain ⟨n3, hk_, hn_, hc_, H⟩ := H
  refine k_eq (pc := 11) (st' := [.int (nI n3), .ref v0]) rfl rfl (by rw [hk_]) ?_
  refine l_newI C hR (u := 0) (pc := 11) hn_ hc_ (Nat.mul_le_mul_left 16 hc_) dX8_init_11 (fun a3 w1 hf_ hR => ?_)
  have H := H a3 hf_
  obtain ⟨mu4, hm4⟩ : ∃ m_, m_ = sI mu2 a3 (n3, fun _ => 0) := ⟨_, rfl⟩
  rw [← hm4] at hR
  have H := H mu4 hm4
  obtain ⟨x5, hx5, H⟩ := H
  refine l_putP C hR (pc := 13) hx5 3 (Nat.lt_of_lt_of_le (Nat.lt_succ_self _) (Nat.le_of_ble_eq_true rfl)) (ref := "WidowWatchLaw$Para") tW_2_131 rfl rfl  rfl rfl rfl (x1 := ((x5.1, x5.2.1, x5.2.2.1, some a3))) rfl dX8_init_13 (fun w1 hR => ?_)
  obtain ⟨mu6, hm6⟩ : ∃ m_, m_ = sP mu4 v0 (x5.1, x5.2.1, x5.2.2.1, some a3) := ⟨_, rfl⟩
  rw [← hm6] at hR
  have H := H mu6 hm6
  obtain ⟨hc_, H⟩ := H
  refine k_widen (k := cB) (n := 16 * cB) hc_ (Nat.mul_le_mul_left 16 hc_) ?_
  exact k_vret C (pc := 16) hr dX8_init_16 ⟨mu6, hR, H⟩
/-! WidowWatchLaw$Plan.<init>()V -/
theorem dX9_init_0 : decode cX9_init 0 = .ok (.aload_n 0, 1) := by decide +kernel
theorem dX9_init_1 : decode cX9_init 1 = .ok (.invokespecial 1, 3) := by decide +kernel
theorem dX9_init_4 : decode cX9_init 4 = .ok (.aload_n 0, 1) := by decide +kernel
theorem dX9_init_5 : decode cX9_init 5 = .ok (.iconst 0, 1) := by decide +kernel
theorem dX9_init_6 : decode cX9_init 6 = .ok (.newarray .int, 2) := by decide +kernel
theorem dX9_init_8 : decode cX9_init 8 = .ok (.putfield 7, 3) := by decide +kernel
theorem dX9_init_11 : decode cX9_init 11 = .ok (.aload_n 0, 1) := by decide +kernel
theorem dX9_init_12 : decode cX9_init 12 = .ok (.iconst 0, 1) := by decide +kernel
theorem dX9_init_13 : decode cX9_init 13 = .ok (.newarray .int, 2) := by decide +kernel
theorem dX9_init_15 : decode cX9_init 15 = .ok (.putfield 13, 3) := by decide +kernel
theorem dX9_init_18 : decode cX9_init 18 = .ok (.return_, 1) := by decide +kernel
theorem okX9_init : okY yX9_init 0 := ⟨by decide +kernel, by decide +kernel, by decide +kernel⟩
def wpX9_init (cB : Nat) (mu : Mu) (v0 : Nat) (Post : Mu → Prop) : Prop := ∃ n1, (0 : Int32) = nI n1 ∧ n1 ≤ 1000 ∧ 0 + (1 + n1 / 16) ≤ cB ∧ ∀ a1, frM mu a1 → ∀ mu2, mu2 = sI mu a1 (n1, fun _ => 0) → ∃ x3, mL mu2 v0 = some x3 ∧ ∀ mu4, mu4 = sL mu2 v0 (x3.1, some a1, x3.2.2) → ∃ n5, (0 : Int32) = nI n5 ∧ n5 ≤ 1000 ∧ (0 + (1 + n1 / 16)) + (1 + n5 / 16) ≤ cB ∧ ∀ a5, frM mu4 a5 → ∀ mu6, mu6 = sI mu4 a5 (n5, fun _ => 0) → ∃ x7, mL mu6 v0 = some x7 ∧ ∀ mu8, mu8 = sL mu6 v0 (x7.1, x7.2.1, some a5) → ((0 + (1 + n1 / 16)) + (1 + n5 / 16)) ≤ cB ∧ Post mu8
set_option maxHeartbeats 4000000 in
set_option maxRecDepth 100000 in
theorem conX9_init (l : Launch) (D : va_G) (cA : Nat → ClassId) (cB : Nat) (mu : Mu) (v0 : Nat) (Post : Mu → Prop)  (H : wpX9_init cB mu v0 Post) {w0 ws0 : va_W} (hR : LR cA w0 ws0 mu) : ConN l D cA yX9_init (wm yX9_init cX9_init 1 none) { frames := 1, cells := cB, slots := 16 * cB, locals := 20 } ws0 [.ref v0] cB (16 * cB) (PV (fun w1 => ∃ m1, LR cA w0 w1 m1 ∧ Post m1)) := by
  refine ConN.of (by decide) (Nat.le_of_ble_eq_true rfl) ?_
  intro p e s m args below meth c C hF hr hini
  refine k_eq (ws' := ws0) (lv' := [(0, .ref v0)]) (st' := []) rfl rfl rfl ?_
  have H : ∃ n1, (0 : Int32) = nI n1 ∧ n1 ≤ 1000 ∧ 0 + (1 + n1 / 16) ≤ cB ∧ ∀ a1, frM mu a1 → ∀ mu2, mu2 = sI mu a1 (n1, fun _ => 0) → ∃ x3, mL mu2 v0 = some x3 ∧ ∀ mu4, mu4 = sL mu2 v0 (x3.1, some a1, x3.2.2) → ∃ n5, (0 : Int32) = nI n5 ∧ n5 ≤ 1000 ∧ (0 + (1 + n1 / 16)) + (1 + n5 / 16) ≤ cB ∧ ∀ a5, frM mu4 a5 → ∀ mu6, mu6 = sI mu4 a5 (n5, fun _ => 0) → ∃ x7, mL mu6 v0 = some x7 ∧ ∀ mu8, mu8 = sL mu6 v0 (x7.1, x7.2.1, some a5) → ((0 + (1 + n1 / 16)) + (1 + n5 / 16)) ≤ cB ∧ Post mu8 := H
  refine k_widen (k := 0) (n := 16 * 0) (Nat.le_refl _) (Nat.le_refl _) ?_
  refine k_aload_n C 0 (pc := 0) dX9_init_0 rfl rfl ?_
  refine k_objInit C (pc := 1) tW_6_90 (Nat.le_of_ble_eq_true rfl) (Nat.le_of_ble_eq_true rfl) (Nat.le_of_ble_eq_true rfl) dX9_init_1 ?_
  refine k_aload_n C 0 (pc := 4) dX9_init_4 rfl rfl ?_
  refine k_iconst C (pc := 5) (v := (0 : Int32)) dX9_init_5 rfl ?_
  obtain ⟨n1, hk_, hn_, hc_, H⟩ := H
  refine k_eq (pc := 6) (st' := [.int (nI n1), .ref v0]) rfl rfl (by rw [hk_]) ?_
  refine l_newI C hR (u := 0) (pc := 6) hn_ hc_ (Nat.mul_le_mul_left 16 hc_) dX9_init_6 (fun a1 w1 hf_ hR => ?_)
  have H := H a1 hf_
  obtain ⟨mu2, hm2⟩ : ∃ m_, m_ = sI mu a1 (n1, fun _ => 0) := ⟨_, rfl⟩
  rw [← hm2] at hR
  have H := H mu2 hm2
  obtain ⟨x3, hx3, H⟩ := H
  refine l_putL C hR (pc := 8) hx3 1 (Nat.lt_of_lt_of_le (Nat.lt_succ_self _) (Nat.le_of_ble_eq_true rfl)) (ref := "WidowWatchLaw$Plan") tW_6_92 rfl rfl  rfl rfl rfl (x1 := ((x3.1, some a1, x3.2.2))) rfl dX9_init_8 (fun w1 hR => ?_)
  obtain ⟨mu4, hm4⟩ : ∃ m_, m_ = sL mu2 v0 (x3.1, some a1, x3.2.2) := ⟨_, rfl⟩
  rw [← hm4] at hR
  have H := H mu4 hm4
  refine k_aload_n C 0 (pc := 11) dX9_init_11 rfl rfl ?_
  refine k_iconst C (pc := 12) (v := (0 : Int32)) dX9_init_12 rfl ?_
  obtain ⟨n5, hk_, hn_, hc_, H⟩ := H
  refine k_eq (pc := 13) (st' := [.int (nI n5), .ref v0]) rfl rfl (by rw [hk_]) ?_
  refine l_newI C hR (u := 0 + (1 + n1 / 16)) (pc := 13) hn_ hc_ (Nat.mul_le_mul_left 16 hc_) dX9_init_13 (fun a5 w1 hf_ hR => ?_)
  have H := H a5 hf_
  obtain ⟨mu6, hm6⟩ : ∃ m_, m_ = sI mu4 a5 (n5, fun _ => 0) := ⟨_, rfl⟩
  rw [← hm6] at hR
  have H := H mu6 hm6
  obtain ⟨x7, hx7, H⟩ := H
  refine l_putL C hR (pc := 15) hx7 2 (Nat.lt_of_lt_of_le (Nat.lt_succ_self _) (Nat.le_of_ble_eq_true rfl)) (ref := "WidowWatchLaw$Plan") tW_6_94 rfl rfl  rfl rfl rfl (x1 := ((x7.1, x7.2.1, some a5))) rfl dX9_init_15 (fun w1 hR => ?_)
  obtain ⟨mu8, hm8⟩ : ∃ m_, m_ = sL mu6 v0 (x7.1, x7.2.1, some a5) := ⟨_, rfl⟩
  rw [← hm8] at hR
  have H := H mu8 hm8
  obtain ⟨hc_, H⟩ := H
  refine k_widen (k := cB) (n := 16 * cB) hc_ (Nat.mul_le_mul_left 16 hc_) ?_
  exact k_vret C (pc := 18) hr dX9_init_18 ⟨mu8, hR, H⟩
/-! WidowWatchLaw$Book.<init>()V -/
theorem dX7_init_0 : decode cX7_init 0 = .ok (.aload_n 0, 1) := by decide +kernel
theorem dX7_init_1 : decode cX7_init 1 = .ok (.invokespecial 1, 3) := by decide +kernel
theorem dX7_init_4 : decode cX7_init 4 = .ok (.aload_n 0, 1) := by decide +kernel
theorem dX7_init_5 : decode cX7_init 5 = .ok (.bipush 40, 2) := by decide +kernel
theorem dX7_init_7 : decode cX7_init 7 = .ok (.putfield 7, 3) := by decide +kernel
theorem dX7_init_10 : decode cX7_init 10 = .ok (.aload_n 0, 1) := by decide +kernel
theorem dX7_init_11 : decode cX7_init 11 = .ok (.bipush 10, 2) := by decide +kernel
theorem dX7_init_13 : decode cX7_init 13 = .ok (.putfield 13, 3) := by decide +kernel
theorem dX7_init_16 : decode cX7_init 16 = .ok (.aload_n 0, 1) := by decide +kernel
theorem dX7_init_17 : decode cX7_init 17 = .ok (.iconst 4, 1) := by decide +kernel
theorem dX7_init_18 : decode cX7_init 18 = .ok (.putfield 16, 3) := by decide +kernel
theorem dX7_init_21 : decode cX7_init 21 = .ok (.aload_n 0, 1) := by decide +kernel
theorem dX7_init_22 : decode cX7_init 22 = .ok (.iconst 1, 1) := by decide +kernel
theorem dX7_init_23 : decode cX7_init 23 = .ok (.putfield 19, 3) := by decide +kernel
theorem dX7_init_26 : decode cX7_init 26 = .ok (.aload_n 0, 1) := by decide +kernel
theorem dX7_init_27 : decode cX7_init 27 = .ok (.bipush 6, 2) := by decide +kernel
theorem dX7_init_29 : decode cX7_init 29 = .ok (.newarray .int, 2) := by decide +kernel
theorem dX7_init_31 : decode cX7_init 31 = .ok (.dup, 1) := by decide +kernel
theorem dX7_init_32 : decode cX7_init 32 = .ok (.iconst 0, 1) := by decide +kernel
theorem dX7_init_33 : decode cX7_init 33 = .ok (.iconst 1, 1) := by decide +kernel
theorem dX7_init_34 : decode cX7_init 34 = .ok (.iastore, 1) := by decide +kernel
theorem dX7_init_35 : decode cX7_init 35 = .ok (.dup, 1) := by decide +kernel
theorem dX7_init_36 : decode cX7_init 36 = .ok (.iconst 1, 1) := by decide +kernel
theorem dX7_init_37 : decode cX7_init 37 = .ok (.iconst 1, 1) := by decide +kernel
theorem dX7_init_38 : decode cX7_init 38 = .ok (.iastore, 1) := by decide +kernel
theorem dX7_init_39 : decode cX7_init 39 = .ok (.dup, 1) := by decide +kernel
theorem dX7_init_40 : decode cX7_init 40 = .ok (.iconst 2, 1) := by decide +kernel
theorem dX7_init_41 : decode cX7_init 41 = .ok (.iconst 2, 1) := by decide +kernel
theorem dX7_init_42 : decode cX7_init 42 = .ok (.iastore, 1) := by decide +kernel
theorem dX7_init_43 : decode cX7_init 43 = .ok (.dup, 1) := by decide +kernel
theorem dX7_init_44 : decode cX7_init 44 = .ok (.iconst 3, 1) := by decide +kernel
theorem dX7_init_45 : decode cX7_init 45 = .ok (.bipush 20, 2) := by decide +kernel
theorem dX7_init_47 : decode cX7_init 47 = .ok (.iastore, 1) := by decide +kernel
theorem dX7_init_48 : decode cX7_init 48 = .ok (.dup, 1) := by decide +kernel
theorem dX7_init_49 : decode cX7_init 49 = .ok (.iconst 4, 1) := by decide +kernel
theorem dX7_init_50 : decode cX7_init 50 = .ok (.bipush 10, 2) := by decide +kernel
theorem dX7_init_52 : decode cX7_init 52 = .ok (.iastore, 1) := by decide +kernel
theorem dX7_init_53 : decode cX7_init 53 = .ok (.dup, 1) := by decide +kernel
theorem dX7_init_54 : decode cX7_init 54 = .ok (.iconst 5, 1) := by decide +kernel
theorem dX7_init_55 : decode cX7_init 55 = .ok (.bipush 30, 2) := by decide +kernel
theorem dX7_init_57 : decode cX7_init 57 = .ok (.iastore, 1) := by decide +kernel
theorem dX7_init_58 : decode cX7_init 58 = .ok (.putfield 22, 3) := by decide +kernel
theorem dX7_init_61 : decode cX7_init 61 = .ok (.aload_n 0, 1) := by decide +kernel
theorem dX7_init_62 : decode cX7_init 62 = .ok (.iconst 0, 1) := by decide +kernel
theorem dX7_init_63 : decode cX7_init 63 = .ok (.anewarray 26, 3) := by decide +kernel
theorem dX7_init_66 : decode cX7_init 66 = .ok (.putfield 28, 3) := by decide +kernel
theorem dX7_init_69 : decode cX7_init 69 = .ok (.aload_n 0, 1) := by decide +kernel
theorem dX7_init_70 : decode cX7_init 70 = .ok (.bipush 99, 2) := by decide +kernel
theorem dX7_init_72 : decode cX7_init 72 = .ok (.newarray .int, 2) := by decide +kernel
theorem dX7_init_74 : decode cX7_init 74 = .ok (.putfield 32, 3) := by decide +kernel
theorem dX7_init_77 : decode cX7_init 77 = .ok (.return_, 1) := by decide +kernel
theorem okX7_init : okY yX7_init 0 := ⟨by decide +kernel, by decide +kernel, by decide +kernel⟩
def wpX7_init (cB : Nat) (mu : Mu) (v0 : Nat) (Post : Mu → Prop) : Prop := ∃ x1, mB mu v0 = some x1 ∧ ∀ mu2, mu2 = sB mu v0 ((40 : Int32), x1.2.1, x1.2.2.1, x1.2.2.2.1, x1.2.2.2.2.1, x1.2.2.2.2.2.1, x1.2.2.2.2.2.2.1, x1.2.2.2.2.2.2.2.1, x1.2.2.2.2.2.2.2.2.1, x1.2.2.2.2.2.2.2.2.2) → ∃ x3, mB mu2 v0 = some x3 ∧ ∀ mu4, mu4 = sB mu2 v0 (x3.1, (10 : Int32), x3.2.2.1, x3.2.2.2.1, x3.2.2.2.2.1, x3.2.2.2.2.2.1, x3.2.2.2.2.2.2.1, x3.2.2.2.2.2.2.2.1, x3.2.2.2.2.2.2.2.2.1, x3.2.2.2.2.2.2.2.2.2) → ∃ x5, mB mu4 v0 = some x5 ∧ ∀ mu6, mu6 = sB mu4 v0 (x5.1, x5.2.1, (4 : Int32), x5.2.2.2.1, x5.2.2.2.2.1, x5.2.2.2.2.2.1, x5.2.2.2.2.2.2.1, x5.2.2.2.2.2.2.2.1, x5.2.2.2.2.2.2.2.2.1, x5.2.2.2.2.2.2.2.2.2) → ∃ x7, mB mu6 v0 = some x7 ∧ ∀ mu8, mu8 = sB mu6 v0 (x7.1, x7.2.1, x7.2.2.1, (1 : Int32), x7.2.2.2.2.1, x7.2.2.2.2.2.1, x7.2.2.2.2.2.2.1, x7.2.2.2.2.2.2.2.1, x7.2.2.2.2.2.2.2.2.1, x7.2.2.2.2.2.2.2.2.2) → ∃ n9, (6 : Int32) = nI n9 ∧ n9 ≤ 1000 ∧ 0 + (1 + n9 / 16) ≤ cB ∧ ∀ a9, frM mu8 a9 → ∀ mu10, mu10 = sI mu8 a9 (n9, fun _ => 0) → ∃ n11 f11 k11, mI mu10 a9 = some (n11, f11) ∧ (0 : Int32) = nI k11 ∧ k11 < n11 ∧ n11 ≤ 1000 ∧ ∀ mu12, mu12 = sI mu10 a9 (n11, upd f11 k11 (1 : Int32)) → ∃ n13 f13 k13, mI mu12 a9 = some (n13, f13) ∧ (1 : Int32) = nI k13 ∧ k13 < n13 ∧ n13 ≤ 1000 ∧ ∀ mu14, mu14 = sI mu12 a9 (n13, upd f13 k13 (1 : Int32)) → ∃ n15 f15 k15, mI mu14 a9 = some (n15, f15) ∧ (2 : Int32) = nI k15 ∧ k15 < n15 ∧ n15 ≤ 1000 ∧ ∀ mu16, mu16 = sI mu14 a9 (n15, upd f15 k15 (2 : Int32)) → ∃ n17 f17 k17, mI mu16 a9 = some (n17, f17) ∧ (3 : Int32) = nI k17 ∧ k17 < n17 ∧ n17 ≤ 1000 ∧ ∀ mu18, mu18 = sI mu16 a9 (n17, upd f17 k17 (20 : Int32)) → ∃ n19 f19 k19, mI mu18 a9 = some (n19, f19) ∧ (4 : Int32) = nI k19 ∧ k19 < n19 ∧ n19 ≤ 1000 ∧ ∀ mu20, mu20 = sI mu18 a9 (n19, upd f19 k19 (10 : Int32)) → ∃ n21 f21 k21, mI mu20 a9 = some (n21, f21) ∧ (5 : Int32) = nI k21 ∧ k21 < n21 ∧ n21 ≤ 1000 ∧ ∀ mu22, mu22 = sI mu20 a9 (n21, upd f21 k21 (30 : Int32)) → ∃ x23, mB mu22 v0 = some x23 ∧ ∀ mu24, mu24 = sB mu22 v0 (x23.1, x23.2.1, x23.2.2.1, x23.2.2.2.1, some a9, x23.2.2.2.2.2.1, x23.2.2.2.2.2.2.1, x23.2.2.2.2.2.2.2.1, x23.2.2.2.2.2.2.2.2.1, x23.2.2.2.2.2.2.2.2.2) → ∃ n25, (0 : Int32) = nI n25 ∧ n25 ≤ 1000 ∧ (0 + (1 + n9 / 16)) + (1 + n25 / 16) ≤ cB ∧ ∀ a25, frM mu24 a25 → ∀ mu26, mu26 = sQ mu24 a25 (2, n25, fun _ => none) → ∃ x27, mB mu26 v0 = some x27 ∧ ∀ mu28, mu28 = sB mu26 v0 (x27.1, x27.2.1, x27.2.2.1, x27.2.2.2.1, x27.2.2.2.2.1, some a25, x27.2.2.2.2.2.2.1, x27.2.2.2.2.2.2.2.1, x27.2.2.2.2.2.2.2.2.1, x27.2.2.2.2.2.2.2.2.2) → ∃ n29, (99 : Int32) = nI n29 ∧ n29 ≤ 1000 ∧ ((0 + (1 + n9 / 16)) + (1 + n25 / 16)) + (1 + n29 / 16) ≤ cB ∧ ∀ a29, frM mu28 a29 → ∀ mu30, mu30 = sI mu28 a29 (n29, fun _ => 0) → ∃ x31, mB mu30 v0 = some x31 ∧ ∀ mu32, mu32 = sB mu30 v0 (x31.1, x31.2.1, x31.2.2.1, x31.2.2.2.1, x31.2.2.2.2.1, x31.2.2.2.2.2.1, x31.2.2.2.2.2.2.1, x31.2.2.2.2.2.2.2.1, some a29, x31.2.2.2.2.2.2.2.2.2) → (((0 + (1 + n9 / 16)) + (1 + n25 / 16)) + (1 + n29 / 16)) ≤ cB ∧ Post mu32
set_option maxHeartbeats 4000000 in
set_option maxRecDepth 100000 in
theorem conX7_init (l : Launch) (D : va_G) (cA : Nat → ClassId) (cB : Nat) (mu : Mu) (v0 : Nat) (Post : Mu → Prop)  (H : wpX7_init cB mu v0 Post) {w0 ws0 : va_W} (hR : LR cA w0 ws0 mu) : ConN l D cA yX7_init (wm yX7_init cX7_init 1 none) { frames := 1, cells := cB, slots := 16 * cB, locals := 20 } ws0 [.ref v0] cB (16 * cB) (PV (fun w1 => ∃ m1, LR cA w0 w1 m1 ∧ Post m1)) := by
  refine ConN.of (by decide) (Nat.le_of_ble_eq_true rfl) ?_
  intro p e s m args below meth c C hF hr hini
  refine k_eq (ws' := ws0) (lv' := [(0, .ref v0)]) (st' := []) rfl rfl rfl ?_
  have H : ∃ x1, mB mu v0 = some x1 ∧ ∀ mu2, mu2 = sB mu v0 ((40 : Int32), x1.2.1, x1.2.2.1, x1.2.2.2.1, x1.2.2.2.2.1, x1.2.2.2.2.2.1, x1.2.2.2.2.2.2.1, x1.2.2.2.2.2.2.2.1, x1.2.2.2.2.2.2.2.2.1, x1.2.2.2.2.2.2.2.2.2) → ∃ x3, mB mu2 v0 = some x3 ∧ ∀ mu4, mu4 = sB mu2 v0 (x3.1, (10 : Int32), x3.2.2.1, x3.2.2.2.1, x3.2.2.2.2.1, x3.2.2.2.2.2.1, x3.2.2.2.2.2.2.1, x3.2.2.2.2.2.2.2.1, x3.2.2.2.2.2.2.2.2.1, x3.2.2.2.2.2.2.2.2.2) → ∃ x5, mB mu4 v0 = some x5 ∧ ∀ mu6, mu6 = sB mu4 v0 (x5.1, x5.2.1, (4 : Int32), x5.2.2.2.1, x5.2.2.2.2.1, x5.2.2.2.2.2.1, x5.2.2.2.2.2.2.1, x5.2.2.2.2.2.2.2.1, x5.2.2.2.2.2.2.2.2.1, x5.2.2.2.2.2.2.2.2.2) → ∃ x7, mB mu6 v0 = some x7 ∧ ∀ mu8, mu8 = sB mu6 v0 (x7.1, x7.2.1, x7.2.2.1, (1 : Int32), x7.2.2.2.2.1, x7.2.2.2.2.2.1, x7.2.2.2.2.2.2.1, x7.2.2.2.2.2.2.2.1, x7.2.2.2.2.2.2.2.2.1, x7.2.2.2.2.2.2.2.2.2) → ∃ n9, (6 : Int32) = nI n9 ∧ n9 ≤ 1000 ∧ 0 + (1 + n9 / 16) ≤ cB ∧ ∀ a9, frM mu8 a9 → ∀ mu10, mu10 = sI mu8 a9 (n9, fun _ => 0) → ∃ n11 f11 k11, mI mu10 a9 = some (n11, f11) ∧ (0 : Int32) = nI k11 ∧ k11 < n11 ∧ n11 ≤ 1000 ∧ ∀ mu12, mu12 = sI mu10 a9 (n11, upd f11 k11 (1 : Int32)) → ∃ n13 f13 k13, mI mu12 a9 = some (n13, f13) ∧ (1 : Int32) = nI k13 ∧ k13 < n13 ∧ n13 ≤ 1000 ∧ ∀ mu14, mu14 = sI mu12 a9 (n13, upd f13 k13 (1 : Int32)) → ∃ n15 f15 k15, mI mu14 a9 = some (n15, f15) ∧ (2 : Int32) = nI k15 ∧ k15 < n15 ∧ n15 ≤ 1000 ∧ ∀ mu16, mu16 = sI mu14 a9 (n15, upd f15 k15 (2 : Int32)) → ∃ n17 f17 k17, mI mu16 a9 = some (n17, f17) ∧ (3 : Int32) = nI k17 ∧ k17 < n17 ∧ n17 ≤ 1000 ∧ ∀ mu18, mu18 = sI mu16 a9 (n17, upd f17 k17 (20 : Int32)) → ∃ n19 f19 k19, mI mu18 a9 = some (n19, f19) ∧ (4 : Int32) = nI k19 ∧ k19 < n19 ∧ n19 ≤ 1000 ∧ ∀ mu20, mu20 = sI mu18 a9 (n19, upd f19 k19 (10 : Int32)) → ∃ n21 f21 k21, mI mu20 a9 = some (n21, f21) ∧ (5 : Int32) = nI k21 ∧ k21 < n21 ∧ n21 ≤ 1000 ∧ ∀ mu22, mu22 = sI mu20 a9 (n21, upd f21 k21 (30 : Int32)) → ∃ x23, mB mu22 v0 = some x23 ∧ ∀ mu24, mu24 = sB mu22 v0 (x23.1, x23.2.1, x23.2.2.1, x23.2.2.2.1, some a9, x23.2.2.2.2.2.1, x23.2.2.2.2.2.2.1, x23.2.2.2.2.2.2.2.1, x23.2.2.2.2.2.2.2.2.1, x23.2.2.2.2.2.2.2.2.2) → ∃ n25, (0 : Int32) = nI n25 ∧ n25 ≤ 1000 ∧ (0 + (1 + n9 / 16)) + (1 + n25 / 16) ≤ cB ∧ ∀ a25, frM mu24 a25 → ∀ mu26, mu26 = sQ mu24 a25 (2, n25, fun _ => none) → ∃ x27, mB mu26 v0 = some x27 ∧ ∀ mu28, mu28 = sB mu26 v0 (x27.1, x27.2.1, x27.2.2.1, x27.2.2.2.1, x27.2.2.2.2.1, some a25, x27.2.2.2.2.2.2.1, x27.2.2.2.2.2.2.2.1, x27.2.2.2.2.2.2.2.2.1, x27.2.2.2.2.2.2.2.2.2) → ∃ n29, (99 : Int32) = nI n29 ∧ n29 ≤ 1000 ∧ ((0 + (1 + n9 / 16)) + (1 + n25 / 16)) + (1 + n29 / 16) ≤ cB ∧ ∀ a29, frM mu28 a29 → ∀ mu30, mu30 = sI mu28 a29 (n29, fun _ => 0) → ∃ x31, mB mu30 v0 = some x31 ∧ ∀ mu32, mu32 = sB mu30 v0 (x31.1, x31.2.1, x31.2.2.1, x31.2.2.2.1, x31.2.2.2.2.1, x31.2.2.2.2.2.1, x31.2.2.2.2.2.2.1, x31.2.2.2.2.2.2.2.1, some a29, x31.2.2.2.2.2.2.2.2.2) → (((0 + (1 + n9 / 16)) + (1 + n25 / 16)) + (1 + n29 / 16)) ≤ cB ∧ Post mu32 := H
  refine k_widen (k := 0) (n := 16 * 0) (Nat.le_refl _) (Nat.le_refl _) ?_
  refine k_aload_n C 0 (pc := 0) dX7_init_0 rfl rfl ?_
  refine k_objInit C (pc := 1) tW_2_59 (Nat.le_of_ble_eq_true rfl) (Nat.le_of_ble_eq_true rfl) (Nat.le_of_ble_eq_true rfl) dX7_init_1 ?_
  refine k_aload_n C 0 (pc := 4) dX7_init_4 rfl rfl ?_
  refine k_bipush C (pc := 5) (v := (40 : Int32)) dX7_init_5 (by decide) ?_
  obtain ⟨x1, hx1, H⟩ := H
  refine l_putB C hR (pc := 7) hx1 0 (Nat.lt_of_lt_of_le (Nat.lt_succ_self _) (Nat.le_of_ble_eq_true rfl)) (ref := "WidowWatchLaw$Book") tW_2_62 rfl rfl  (ty := .int) rfl rfl rfl (x1 := (((40 : Int32), x1.2.1, x1.2.2.1, x1.2.2.2.1, x1.2.2.2.2.1, x1.2.2.2.2.2.1, x1.2.2.2.2.2.2.1, x1.2.2.2.2.2.2.2.1, x1.2.2.2.2.2.2.2.2.1, x1.2.2.2.2.2.2.2.2.2))) rfl dX7_init_7 (fun w1 hR => ?_)
  obtain ⟨mu2, hm2⟩ : ∃ m_, m_ = sB mu v0 ((40 : Int32), x1.2.1, x1.2.2.1, x1.2.2.2.1, x1.2.2.2.2.1, x1.2.2.2.2.2.1, x1.2.2.2.2.2.2.1, x1.2.2.2.2.2.2.2.1, x1.2.2.2.2.2.2.2.2.1, x1.2.2.2.2.2.2.2.2.2) := ⟨_, rfl⟩
  rw [← hm2] at hR
  have H := H mu2 hm2
  refine k_aload_n C 0 (pc := 10) dX7_init_10 rfl rfl ?_
  refine k_bipush C (pc := 11) (v := (10 : Int32)) dX7_init_11 (by decide) ?_
  obtain ⟨x3, hx3, H⟩ := H
  refine l_putB C hR (pc := 13) hx3 1 (Nat.lt_of_lt_of_le (Nat.lt_succ_self _) (Nat.le_of_ble_eq_true rfl)) (ref := "WidowWatchLaw$Book") tW_2_64 rfl rfl  (ty := .int) rfl rfl rfl (x1 := ((x3.1, (10 : Int32), x3.2.2.1, x3.2.2.2.1, x3.2.2.2.2.1, x3.2.2.2.2.2.1, x3.2.2.2.2.2.2.1, x3.2.2.2.2.2.2.2.1, x3.2.2.2.2.2.2.2.2.1, x3.2.2.2.2.2.2.2.2.2))) rfl dX7_init_13 (fun w1 hR => ?_)
  obtain ⟨mu4, hm4⟩ : ∃ m_, m_ = sB mu2 v0 (x3.1, (10 : Int32), x3.2.2.1, x3.2.2.2.1, x3.2.2.2.2.1, x3.2.2.2.2.2.1, x3.2.2.2.2.2.2.1, x3.2.2.2.2.2.2.2.1, x3.2.2.2.2.2.2.2.2.1, x3.2.2.2.2.2.2.2.2.2) := ⟨_, rfl⟩
  rw [← hm4] at hR
  have H := H mu4 hm4
  refine k_aload_n C 0 (pc := 16) dX7_init_16 rfl rfl ?_
  refine k_iconst C (pc := 17) (v := (4 : Int32)) dX7_init_17 rfl ?_
  obtain ⟨x5, hx5, H⟩ := H
  refine l_putB C hR (pc := 18) hx5 2 (Nat.lt_of_lt_of_le (Nat.lt_succ_self _) (Nat.le_of_ble_eq_true rfl)) (ref := "WidowWatchLaw$Book") tW_2_66 rfl rfl  (ty := .int) rfl rfl rfl (x1 := ((x5.1, x5.2.1, (4 : Int32), x5.2.2.2.1, x5.2.2.2.2.1, x5.2.2.2.2.2.1, x5.2.2.2.2.2.2.1, x5.2.2.2.2.2.2.2.1, x5.2.2.2.2.2.2.2.2.1, x5.2.2.2.2.2.2.2.2.2))) rfl dX7_init_18 (fun w1 hR => ?_)
  obtain ⟨mu6, hm6⟩ : ∃ m_, m_ = sB mu4 v0 (x5.1, x5.2.1, (4 : Int32), x5.2.2.2.1, x5.2.2.2.2.1, x5.2.2.2.2.2.1, x5.2.2.2.2.2.2.1, x5.2.2.2.2.2.2.2.1, x5.2.2.2.2.2.2.2.2.1, x5.2.2.2.2.2.2.2.2.2) := ⟨_, rfl⟩
  rw [← hm6] at hR
  have H := H mu6 hm6
  refine k_aload_n C 0 (pc := 21) dX7_init_21 rfl rfl ?_
  refine k_iconst C (pc := 22) (v := (1 : Int32)) dX7_init_22 rfl ?_
  obtain ⟨x7, hx7, H⟩ := H
  refine l_putB C hR (pc := 23) hx7 3 (Nat.lt_of_lt_of_le (Nat.lt_succ_self _) (Nat.le_of_ble_eq_true rfl)) (ref := "WidowWatchLaw$Book") tW_2_68 rfl rfl  (ty := .int) rfl rfl rfl (x1 := ((x7.1, x7.2.1, x7.2.2.1, (1 : Int32), x7.2.2.2.2.1, x7.2.2.2.2.2.1, x7.2.2.2.2.2.2.1, x7.2.2.2.2.2.2.2.1, x7.2.2.2.2.2.2.2.2.1, x7.2.2.2.2.2.2.2.2.2))) rfl dX7_init_23 (fun w1 hR => ?_)
  obtain ⟨mu8, hm8⟩ : ∃ m_, m_ = sB mu6 v0 (x7.1, x7.2.1, x7.2.2.1, (1 : Int32), x7.2.2.2.2.1, x7.2.2.2.2.2.1, x7.2.2.2.2.2.2.1, x7.2.2.2.2.2.2.2.1, x7.2.2.2.2.2.2.2.2.1, x7.2.2.2.2.2.2.2.2.2) := ⟨_, rfl⟩
  rw [← hm8] at hR
  have H := H mu8 hm8
  refine k_aload_n C 0 (pc := 26) dX7_init_26 rfl rfl ?_
  refine k_bipush C (pc := 27) (v := (6 : Int32)) dX7_init_27 (by decide) ?_
  obtain ⟨n9, hk_, hn_, hc_, H⟩ := H
  refine k_eq (pc := 29) (st' := [.int (nI n9), .ref v0]) rfl rfl (by rw [hk_]) ?_
  refine l_newI C hR (u := 0) (pc := 29) hn_ hc_ (Nat.mul_le_mul_left 16 hc_) dX7_init_29 (fun a9 w1 hf_ hR => ?_)
  have H := H a9 hf_
  obtain ⟨mu10, hm10⟩ : ∃ m_, m_ = sI mu8 a9 (n9, fun _ => 0) := ⟨_, rfl⟩
  rw [← hm10] at hR
  have H := H mu10 hm10
  refine k_dup C (pc := 31) dX7_init_31 rfl ?_
  refine k_iconst C (pc := 32) (v := (0 : Int32)) dX7_init_32 rfl ?_
  refine k_iconst C (pc := 33) (v := (1 : Int32)) dX7_init_33 rfl ?_
  obtain ⟨n11, f11, k11, hx_, hk_, hl_, hn_, H⟩ := H
  refine k_eq (pc := 34) (st' := [.int (1 : Int32), .int (nI k11), .ref a9, .ref a9, .ref v0]) rfl rfl (by rw [hk_]) ?_
  refine l_iast C hR (pc := 34) hx_ hl_ hn_ dX7_init_34 (fun w1 hR => ?_)
  obtain ⟨mu12, hm12⟩ : ∃ m_, m_ = sI mu10 a9 (n11, upd f11 k11 (1 : Int32)) := ⟨_, rfl⟩
  rw [← hm12] at hR
  have H := H mu12 hm12
  refine k_dup C (pc := 35) dX7_init_35 rfl ?_
  refine k_iconst C (pc := 36) (v := (1 : Int32)) dX7_init_36 rfl ?_
  refine k_iconst C (pc := 37) (v := (1 : Int32)) dX7_init_37 rfl ?_
  obtain ⟨n13, f13, k13, hx_, hk_, hl_, hn_, H⟩ := H
  refine k_eq (pc := 38) (st' := [.int (1 : Int32), .int (nI k13), .ref a9, .ref a9, .ref v0]) rfl rfl (by rw [hk_]) ?_
  refine l_iast C hR (pc := 38) hx_ hl_ hn_ dX7_init_38 (fun w1 hR => ?_)
  obtain ⟨mu14, hm14⟩ : ∃ m_, m_ = sI mu12 a9 (n13, upd f13 k13 (1 : Int32)) := ⟨_, rfl⟩
  rw [← hm14] at hR
  have H := H mu14 hm14
  refine k_dup C (pc := 39) dX7_init_39 rfl ?_
  refine k_iconst C (pc := 40) (v := (2 : Int32)) dX7_init_40 rfl ?_
  refine k_iconst C (pc := 41) (v := (2 : Int32)) dX7_init_41 rfl ?_
  obtain ⟨n15, f15, k15, hx_, hk_, hl_, hn_, H⟩ := H
  refine k_eq (pc := 42) (st' := [.int (2 : Int32), .int (nI k15), .ref a9, .ref a9, .ref v0]) rfl rfl (by rw [hk_]) ?_
  refine l_iast C hR (pc := 42) hx_ hl_ hn_ dX7_init_42 (fun w1 hR => ?_)
  obtain ⟨mu16, hm16⟩ : ∃ m_, m_ = sI mu14 a9 (n15, upd f15 k15 (2 : Int32)) := ⟨_, rfl⟩
  rw [← hm16] at hR
  have H := H mu16 hm16
  refine k_dup C (pc := 43) dX7_init_43 rfl ?_
  refine k_iconst C (pc := 44) (v := (3 : Int32)) dX7_init_44 rfl ?_
  refine k_bipush C (pc := 45) (v := (20 : Int32)) dX7_init_45 (by decide) ?_
  obtain ⟨n17, f17, k17, hx_, hk_, hl_, hn_, H⟩ := H
  refine k_eq (pc := 47) (st' := [.int (20 : Int32), .int (nI k17), .ref a9, .ref a9, .ref v0]) rfl rfl (by rw [hk_]) ?_
  refine l_iast C hR (pc := 47) hx_ hl_ hn_ dX7_init_47 (fun w1 hR => ?_)
  obtain ⟨mu18, hm18⟩ : ∃ m_, m_ = sI mu16 a9 (n17, upd f17 k17 (20 : Int32)) := ⟨_, rfl⟩
  rw [← hm18] at hR
  have H := H mu18 hm18
  refine k_dup C (pc := 48) dX7_init_48 rfl ?_
  refine k_iconst C (pc := 49) (v := (4 : Int32)) dX7_init_49 rfl ?_
  refine k_bipush C (pc := 50) (v := (10 : Int32)) dX7_init_50 (by decide) ?_
  obtain ⟨n19, f19, k19, hx_, hk_, hl_, hn_, H⟩ := H
  refine k_eq (pc := 52) (st' := [.int (10 : Int32), .int (nI k19), .ref a9, .ref a9, .ref v0]) rfl rfl (by rw [hk_]) ?_
  refine l_iast C hR (pc := 52) hx_ hl_ hn_ dX7_init_52 (fun w1 hR => ?_)
  obtain ⟨mu20, hm20⟩ : ∃ m_, m_ = sI mu18 a9 (n19, upd f19 k19 (10 : Int32)) := ⟨_, rfl⟩
  rw [← hm20] at hR
  have H := H mu20 hm20
  refine k_dup C (pc := 53) dX7_init_53 rfl ?_
  refine k_iconst C (pc := 54) (v := (5 : Int32)) dX7_init_54 rfl ?_
  refine k_bipush C (pc := 55) (v := (30 : Int32)) dX7_init_55 (by decide) ?_
  obtain ⟨n21, f21, k21, hx_, hk_, hl_, hn_, H⟩ := H
  refine k_eq (pc := 57) (st' := [.int (30 : Int32), .int (nI k21), .ref a9, .ref a9, .ref v0]) rfl rfl (by rw [hk_]) ?_
  refine l_iast C hR (pc := 57) hx_ hl_ hn_ dX7_init_57 (fun w1 hR => ?_)
  obtain ⟨mu22, hm22⟩ : ∃ m_, m_ = sI mu20 a9 (n21, upd f21 k21 (30 : Int32)) := ⟨_, rfl⟩
  rw [← hm22] at hR
  have H := H mu22 hm22
  obtain ⟨x23, hx23, H⟩ := H
  refine l_putB C hR (pc := 58) hx23 4 (Nat.lt_of_lt_of_le (Nat.lt_succ_self _) (Nat.le_of_ble_eq_true rfl)) (ref := "WidowWatchLaw$Book") tW_2_70 rfl rfl  rfl rfl rfl (x1 := ((x23.1, x23.2.1, x23.2.2.1, x23.2.2.2.1, some a9, x23.2.2.2.2.2.1, x23.2.2.2.2.2.2.1, x23.2.2.2.2.2.2.2.1, x23.2.2.2.2.2.2.2.2.1, x23.2.2.2.2.2.2.2.2.2))) rfl dX7_init_58 (fun w1 hR => ?_)
  obtain ⟨mu24, hm24⟩ : ∃ m_, m_ = sB mu22 v0 (x23.1, x23.2.1, x23.2.2.1, x23.2.2.2.1, some a9, x23.2.2.2.2.2.1, x23.2.2.2.2.2.2.1, x23.2.2.2.2.2.2.2.1, x23.2.2.2.2.2.2.2.2.1, x23.2.2.2.2.2.2.2.2.2) := ⟨_, rfl⟩
  rw [← hm24] at hR
  have H := H mu24 hm24
  refine k_aload_n C 0 (pc := 61) dX7_init_61 rfl rfl ?_
  refine k_iconst C (pc := 62) (v := (0 : Int32)) dX7_init_62 rfl ?_
  obtain ⟨n25, hk_, hn_, hc_, H⟩ := H
  refine k_eq (pc := 63) (st' := [.int (nI n25), .ref v0]) rfl rfl (by rw [hk_]) ?_
  refine l_newQ2 C hR hF (u := 0 + (1 + n9 / 16)) (pc := 63) tW_2_60 hn_ hc_ (Nat.mul_le_mul_left 16 hc_) dX7_init_63 (fun a25 w1 hf_ hR => ?_)
  have H := H a25 hf_
  obtain ⟨mu26, hm26⟩ : ∃ m_, m_ = sQ mu24 a25 (2, n25, fun _ => none) := ⟨_, rfl⟩
  rw [← hm26] at hR
  have H := H mu26 hm26
  obtain ⟨x27, hx27, H⟩ := H
  refine l_putB C hR (pc := 66) hx27 5 (Nat.lt_of_lt_of_le (Nat.lt_succ_self _) (Nat.le_of_ble_eq_true rfl)) (ref := "WidowWatchLaw$Book") tW_2_72 rfl rfl  rfl rfl rfl (x1 := ((x27.1, x27.2.1, x27.2.2.1, x27.2.2.2.1, x27.2.2.2.2.1, some a25, x27.2.2.2.2.2.2.1, x27.2.2.2.2.2.2.2.1, x27.2.2.2.2.2.2.2.2.1, x27.2.2.2.2.2.2.2.2.2))) rfl dX7_init_66 (fun w1 hR => ?_)
  obtain ⟨mu28, hm28⟩ : ∃ m_, m_ = sB mu26 v0 (x27.1, x27.2.1, x27.2.2.1, x27.2.2.2.1, x27.2.2.2.2.1, some a25, x27.2.2.2.2.2.2.1, x27.2.2.2.2.2.2.2.1, x27.2.2.2.2.2.2.2.2.1, x27.2.2.2.2.2.2.2.2.2) := ⟨_, rfl⟩
  rw [← hm28] at hR
  have H := H mu28 hm28
  refine k_aload_n C 0 (pc := 69) dX7_init_69 rfl rfl ?_
  refine k_bipush C (pc := 70) (v := (99 : Int32)) dX7_init_70 (by decide) ?_
  obtain ⟨n29, hk_, hn_, hc_, H⟩ := H
  refine k_eq (pc := 72) (st' := [.int (nI n29), .ref v0]) rfl rfl (by rw [hk_]) ?_
  refine l_newI C hR (u := (0 + (1 + n9 / 16)) + (1 + n25 / 16)) (pc := 72) hn_ hc_ (Nat.mul_le_mul_left 16 hc_) dX7_init_72 (fun a29 w1 hf_ hR => ?_)
  have H := H a29 hf_
  obtain ⟨mu30, hm30⟩ : ∃ m_, m_ = sI mu28 a29 (n29, fun _ => 0) := ⟨_, rfl⟩
  rw [← hm30] at hR
  have H := H mu30 hm30
  obtain ⟨x31, hx31, H⟩ := H
  refine l_putFB C hR (pc := 74) hx31 8 (Nat.lt_of_lt_of_le (Nat.lt_succ_self _) (Nat.le_of_ble_eq_true rfl)) (ref := "WidowWatchLaw$Book") tW_2_76 rfl rfl hini rfl  rfl rfl rfl (x1 := ((x31.1, x31.2.1, x31.2.2.1, x31.2.2.2.1, x31.2.2.2.2.1, x31.2.2.2.2.2.1, x31.2.2.2.2.2.2.1, x31.2.2.2.2.2.2.2.1, some a29, x31.2.2.2.2.2.2.2.2.2))) rfl dX7_init_74 (fun w1 hR => ?_)
  obtain ⟨mu32, hm32⟩ : ∃ m_, m_ = sB mu30 v0 (x31.1, x31.2.1, x31.2.2.1, x31.2.2.2.1, x31.2.2.2.2.1, x31.2.2.2.2.2.1, x31.2.2.2.2.2.2.1, x31.2.2.2.2.2.2.2.1, some a29, x31.2.2.2.2.2.2.2.2.2) := ⟨_, rfl⟩
  rw [← hm32] at hR
  have H := H mu32 hm32
  obtain ⟨hc_, H⟩ := H
  refine k_widen (k := cB) (n := 16 * cB) hc_ (Nat.mul_le_mul_left 16 hc_) ?_
  exact k_vret C (pc := 77) hr dX7_init_77 ⟨mu32, hR, H⟩
/-! WidowWatchLaw$Para.copy()LWidowWatchLaw$Para; -/
theorem dX8_copy_0 : decode cX8_copy 0 = .ok (.new 8, 3) := by decide +kernel
theorem dX8_copy_3 : decode cX8_copy 3 = .ok (.dup, 1) := by decide +kernel
theorem dX8_copy_4 : decode cX8_copy 4 = .ok (.invokespecial 17, 3) := by decide +kernel
theorem dX8_copy_7 : decode cX8_copy 7 = .ok (.astore_n 1, 1) := by decide +kernel
theorem dX8_copy_8 : decode cX8_copy 8 = .ok (.aload_n 1, 1) := by decide +kernel
theorem dX8_copy_9 : decode cX8_copy 9 = .ok (.aload_n 0, 1) := by decide +kernel
theorem dX8_copy_10 : decode cX8_copy 10 = .ok (.getfield 18, 3) := by decide +kernel
theorem dX8_copy_13 : decode cX8_copy 13 = .ok (.putfield 18, 3) := by decide +kernel
theorem dX8_copy_16 : decode cX8_copy 16 = .ok (.aload_n 1, 1) := by decide +kernel
theorem dX8_copy_17 : decode cX8_copy 17 = .ok (.aload_n 0, 1) := by decide +kernel
theorem dX8_copy_18 : decode cX8_copy 18 = .ok (.getfield 22, 3) := by decide +kernel
theorem dX8_copy_21 : decode cX8_copy 21 = .ok (.putfield 22, 3) := by decide +kernel
theorem dX8_copy_24 : decode cX8_copy 24 = .ok (.aload_n 1, 1) := by decide +kernel
theorem dX8_copy_25 : decode cX8_copy 25 = .ok (.aload_n 0, 1) := by decide +kernel
theorem dX8_copy_26 : decode cX8_copy 26 = .ok (.getfield 7, 3) := by decide +kernel
theorem dX8_copy_29 : decode cX8_copy 29 = .ok (.putfield 7, 3) := by decide +kernel
theorem dX8_copy_32 : decode cX8_copy 32 = .ok (.aload_n 1, 1) := by decide +kernel
theorem dX8_copy_33 : decode cX8_copy 33 = .ok (.aload_n 0, 1) := by decide +kernel
theorem dX8_copy_34 : decode cX8_copy 34 = .ok (.getfield 13, 3) := by decide +kernel
theorem dX8_copy_37 : decode cX8_copy 37 = .ok (.putfield 13, 3) := by decide +kernel
theorem dX8_copy_40 : decode cX8_copy 40 = .ok (.aload_n 1, 1) := by decide +kernel
theorem dX8_copy_41 : decode cX8_copy 41 = .ok (.areturn, 1) := by decide +kernel
theorem okX8_copy : okY yX8_copy 0 := ⟨by decide +kernel, by decide +kernel, by decide +kernel⟩
def wpX8_copy (cB : Nat) (mu : Mu) (v0 : Nat) (Post : Nat → Mu → Prop) : Prop := 0 + 1 ≤ cB ∧ ∀ a1, frM mu a1 → ∀ mu2, mu2 = sP mu a1 (0, 0, 0, none) → ∃ q4, (0 + 1) + q4 ≤ cB ∧ wpX8_init q4 mu2 a1 (fun mu5 => ∃ x6, mP mu5 v0 = some x6 ∧ ∃ x7, mP mu5 a1 = some x7 ∧ (x6.1 = 0 ∨ x6.1 = 1) ∧ ∀ mu8, mu8 = sP mu5 a1 (x6.1, x7.2.1, x7.2.2.1, x7.2.2.2) → ∃ x9, mP mu8 v0 = some x9 ∧ ∃ x10, mP mu8 a1 = some x10 ∧ (x9.2.1 = 0 ∨ x9.2.1 = 1) ∧ ∀ mu11, mu11 = sP mu8 a1 (x10.1, x9.2.1, x10.2.2.1, x10.2.2.2) → ∃ x12, mP mu11 v0 = some x12 ∧ ∃ x13, mP mu11 a1 = some x13 ∧ ∀ mu14, mu14 = sP mu11 a1 (x13.1, x13.2.1, x12.2.2.1, x13.2.2.2) → ∃ x15, mP mu14 v0 = some x15 ∧ ∃ a15, x15.2.2.2 = some a15 ∧ ∃ x16, mP mu14 a1 = some x16 ∧ ∀ mu17, mu17 = sP mu14 a1 (x16.1, x16.2.1, x16.2.2.1, some a15) → ((0 + 1) + q4) ≤ cB ∧ Post a1 mu17)
set_option maxHeartbeats 4000000 in
set_option maxRecDepth 100000 in
theorem conX8_copy (l : Launch) (D : va_G) (cA : Nat → ClassId) (cB : Nat) (mu : Mu) (v0 : Nat) (Post : Nat → Mu → Prop)  (H : wpX8_copy cB mu v0 Post) {w0 ws0 : va_W} (hR : LR cA w0 ws0 mu) : ConN l D cA yX8_copy (wm yX8_copy cX8_copy 2 (some (.object "WidowWatchLaw$Para"))) { frames := 2, cells := cB, slots := 16 * cB, locals := 40 } ws0 [.ref v0] cB (16 * cB) (PR (fun r w1 => ∃ m1, LR cA w0 w1 m1 ∧ Post r m1)) := by
  refine ConN.of (by decide) (Nat.le_of_ble_eq_true rfl) ?_
  intro p e s m args below meth c C hF hr hini
  refine k_eq (ws' := ws0) (lv' := [(0, .ref v0)]) (st' := []) rfl rfl rfl ?_
  have H : 0 + 1 ≤ cB ∧ ∀ a1, frM mu a1 → ∀ mu2, mu2 = sP mu a1 (0, 0, 0, none) → ∃ q4, (0 + 1) + q4 ≤ cB ∧ wpX8_init q4 mu2 a1 (fun mu5 => ∃ x6, mP mu5 v0 = some x6 ∧ ∃ x7, mP mu5 a1 = some x7 ∧ (x6.1 = 0 ∨ x6.1 = 1) ∧ ∀ mu8, mu8 = sP mu5 a1 (x6.1, x7.2.1, x7.2.2.1, x7.2.2.2) → ∃ x9, mP mu8 v0 = some x9 ∧ ∃ x10, mP mu8 a1 = some x10 ∧ (x9.2.1 = 0 ∨ x9.2.1 = 1) ∧ ∀ mu11, mu11 = sP mu8 a1 (x10.1, x9.2.1, x10.2.2.1, x10.2.2.2) → ∃ x12, mP mu11 v0 = some x12 ∧ ∃ x13, mP mu11 a1 = some x13 ∧ ∀ mu14, mu14 = sP mu11 a1 (x13.1, x13.2.1, x12.2.2.1, x13.2.2.2) → ∃ x15, mP mu14 v0 = some x15 ∧ ∃ a15, x15.2.2.2 = some a15 ∧ ∃ x16, mP mu14 a1 = some x16 ∧ ∀ mu17, mu17 = sP mu14 a1 (x16.1, x16.2.1, x16.2.2.1, some a15) → ((0 + 1) + q4) ≤ cB ∧ Post a1 mu17) := H
  refine k_widen (k := 0) (n := 16 * 0) (Nat.le_refl _) (Nat.le_refl _) ?_
  obtain ⟨hc_, H⟩ := H
  refine l_newP C hR (u := 0) (pc := 0) tW_2_116 tW_2_117 tW_1_22 hc_ (Nat.mul_le_mul_left 16 hc_) dX8_copy_0 (fun a1 w1 hf_ hR => ?_)
  have H := H a1 hf_
  obtain ⟨mu2, hm2⟩ : ∃ m_, m_ = sP mu a1 (0, 0, 0, none) := ⟨_, rfl⟩
  rw [← hm2] at hR
  have H := H mu2 hm2
  refine k_dup C (pc := 3) dX8_copy_3 rfl ?_
  obtain ⟨q4, hc_, H⟩ := H
  refine k_callAv C (pc := 4) (k_runIC C hF (As := []) (rest := [.ref a1]) (conX8_init l D cA q4 mu2 a1 _  H hR) ⟨k_cwB C tW_2_120 tW_2_118 tW_1_22 okX8_init rfl rfl ⟨Nat.le_of_ble_eq_true rfl, Nat.le_of_ble_eq_true rfl⟩, rfl, C.w tW_2_119⟩ rfl rfl (Nat.le_of_ble_eq_true rfl) dX8_copy_4 ⟨hc_, by show 16 * (0 + 1) + 16 * q4 ≤ 16 * cB; omega⟩) (fun w1 hw_ => ?_)
  obtain ⟨mu5, hR, H⟩ := hw_
  refine k_sl ?_
  refine k_astore_n C (pc := 7) dX8_copy_7 rfl (Nat.lt_of_lt_of_le (Nat.lt_succ_self _) (Nat.le_of_ble_eq_true rfl)) (lv' := [(1, .ref a1), (0, .ref v0)]) rfl ?_
  refine k_aload_n C 0 (pc := 8) dX8_copy_8 rfl rfl ?_
  refine k_aload_n C 1 (pc := 9) dX8_copy_9 rfl rfl ?_
  obtain ⟨x6, hx6, H⟩ := H
  refine l_getP C hR (pc := 10) hx6 0 (Nat.lt_of_lt_of_le (Nat.lt_succ_self _) (Nat.le_of_ble_eq_true rfl)) (ref := "WidowWatchLaw$Para") tW_2_122 rfl (v := .int x6.1) rfl dX8_copy_10 ?_
  obtain ⟨x7, hx7, H⟩ := H
  obtain ⟨hb_, H⟩ := H
  refine l_putP C hR (pc := 13) hx7 0 (Nat.lt_of_lt_of_le (Nat.lt_succ_self _) (Nat.le_of_ble_eq_true rfl)) (ref := "WidowWatchLaw$Para") tW_2_122 rfl rfl  (ty := .boolean) rfl (k_nar hb_) (k_fit hb_) (x1 := ((x6.1, x7.2.1, x7.2.2.1, x7.2.2.2))) rfl dX8_copy_13 (fun w1 hR => ?_)
  obtain ⟨mu8, hm8⟩ : ∃ m_, m_ = sP mu5 a1 (x6.1, x7.2.1, x7.2.2.1, x7.2.2.2) := ⟨_, rfl⟩
  rw [← hm8] at hR
  have H := H mu8 hm8
  refine k_aload_n C 0 (pc := 16) dX8_copy_16 rfl rfl ?_
  refine k_aload_n C 1 (pc := 17) dX8_copy_17 rfl rfl ?_
  obtain ⟨x9, hx9, H⟩ := H
  refine l_getP C hR (pc := 18) hx9 1 (Nat.lt_of_lt_of_le (Nat.lt_succ_self _) (Nat.le_of_ble_eq_true rfl)) (ref := "WidowWatchLaw$Para") tW_2_125 rfl (v := .int x9.2.1) rfl dX8_copy_18 ?_
  obtain ⟨x10, hx10, H⟩ := H
  obtain ⟨hb_, H⟩ := H
  refine l_putP C hR (pc := 21) hx10 1 (Nat.lt_of_lt_of_le (Nat.lt_succ_self _) (Nat.le_of_ble_eq_true rfl)) (ref := "WidowWatchLaw$Para") tW_2_125 rfl rfl  (ty := .boolean) rfl (k_nar hb_) (k_fit hb_) (x1 := ((x10.1, x9.2.1, x10.2.2.1, x10.2.2.2))) rfl dX8_copy_21 (fun w1 hR => ?_)
  obtain ⟨mu11, hm11⟩ : ∃ m_, m_ = sP mu8 a1 (x10.1, x9.2.1, x10.2.2.1, x10.2.2.2) := ⟨_, rfl⟩
  rw [← hm11] at hR
  have H := H mu11 hm11
  refine k_aload_n C 0 (pc := 24) dX8_copy_24 rfl rfl ?_
  refine k_aload_n C 1 (pc := 25) dX8_copy_25 rfl rfl ?_
  obtain ⟨x12, hx12, H⟩ := H
  refine l_getP C hR (pc := 26) hx12 2 (Nat.lt_of_lt_of_le (Nat.lt_succ_self _) (Nat.le_of_ble_eq_true rfl)) (ref := "WidowWatchLaw$Para") tW_2_128 rfl (v := .int x12.2.2.1) rfl dX8_copy_26 ?_
  obtain ⟨x13, hx13, H⟩ := H
  refine l_putP C hR (pc := 29) hx13 2 (Nat.lt_of_lt_of_le (Nat.lt_succ_self _) (Nat.le_of_ble_eq_true rfl)) (ref := "WidowWatchLaw$Para") tW_2_128 rfl rfl  (ty := .int) rfl rfl rfl (x1 := ((x13.1, x13.2.1, x12.2.2.1, x13.2.2.2))) rfl dX8_copy_29 (fun w1 hR => ?_)
  obtain ⟨mu14, hm14⟩ : ∃ m_, m_ = sP mu11 a1 (x13.1, x13.2.1, x12.2.2.1, x13.2.2.2) := ⟨_, rfl⟩
  rw [← hm14] at hR
  have H := H mu14 hm14
  refine k_aload_n C 0 (pc := 32) dX8_copy_32 rfl rfl ?_
  refine k_aload_n C 1 (pc := 33) dX8_copy_33 rfl rfl ?_
  obtain ⟨x15, hx15, H⟩ := H
  obtain ⟨a15, ha15, H⟩ := H
  refine l_getP C hR (pc := 34) hx15 3 (Nat.lt_of_lt_of_le (Nat.lt_succ_self _) (Nat.le_of_ble_eq_true rfl)) (ref := "WidowWatchLaw$Para") tW_2_131 rfl (v := .ref a15) (by show some (va_rf x15.2.2.2) = _; rw [ha15]; rfl) dX8_copy_34 ?_
  obtain ⟨x16, hx16, H⟩ := H
  refine l_putP C hR (pc := 37) hx16 3 (Nat.lt_of_lt_of_le (Nat.lt_succ_self _) (Nat.le_of_ble_eq_true rfl)) (ref := "WidowWatchLaw$Para") tW_2_131 rfl rfl  rfl rfl rfl (x1 := ((x16.1, x16.2.1, x16.2.2.1, some a15))) rfl dX8_copy_37 (fun w1 hR => ?_)
  obtain ⟨mu17, hm17⟩ : ∃ m_, m_ = sP mu14 a1 (x16.1, x16.2.1, x16.2.2.1, some a15) := ⟨_, rfl⟩
  rw [← hm17] at hR
  have H := H mu17 hm17
  refine k_aload_n C 0 (pc := 40) dX8_copy_40 rfl rfl ?_
  obtain ⟨hc_, H⟩ := H
  refine k_widen (k := cB) (n := 16 * cB) hc_ (Nat.mul_le_mul_left 16 hc_) ?_
  exact k_aret C (pc := 41) hr (Or.inl ⟨_, rfl⟩) dX8_copy_41 ⟨mu17, hR, H⟩
/-! WidowWatchLaw.with([II)[I -/
theorem dL_with_0 : decode cL_with 0 = .ok (.aload_n 0, 1) := by decide +kernel
theorem dL_with_1 : decode cL_with 1 = .ok (.arraylength, 1) := by decide +kernel
theorem dL_with_2 : decode cL_with 2 = .ok (.iconst 1, 1) := by decide +kernel
theorem dL_with_3 : decode cL_with 3 = .ok (.iadd, 1) := by decide +kernel
theorem dL_with_4 : decode cL_with 4 = .ok (.newarray .int, 2) := by decide +kernel
theorem dL_with_6 : decode cL_with 6 = .ok (.astore_n 2, 1) := by decide +kernel
theorem dL_with_7 : decode cL_with 7 = .ok (.iconst 0, 1) := by decide +kernel
theorem dL_with_8 : decode cL_with 8 = .ok (.istore_n 3, 1) := by decide +kernel
theorem dL_with_9 : decode cL_with 9 = .ok (.iload_n 3, 1) := by decide +kernel
theorem dL_with_10 : decode cL_with 10 = .ok (.aload_n 0, 1) := by decide +kernel
theorem dL_with_11 : decode cL_with 11 = .ok (.arraylength, 1) := by decide +kernel
theorem dL_with_12 : decode cL_with 12 = .ok (.if_icmp .ge 15, 3) := by decide +kernel
theorem dL_with_15 : decode cL_with 15 = .ok (.aload_n 2, 1) := by decide +kernel
theorem dL_with_16 : decode cL_with 16 = .ok (.iload_n 3, 1) := by decide +kernel
theorem dL_with_17 : decode cL_with 17 = .ok (.aload_n 0, 1) := by decide +kernel
theorem dL_with_18 : decode cL_with 18 = .ok (.iload_n 3, 1) := by decide +kernel
theorem dL_with_19 : decode cL_with 19 = .ok (.iaload, 1) := by decide +kernel
theorem dL_with_20 : decode cL_with 20 = .ok (.iastore, 1) := by decide +kernel
theorem dL_with_21 : decode cL_with 21 = .ok (.iinc 3 1, 3) := by decide +kernel
theorem dL_with_24 : decode cL_with 24 = .ok (.goto (-15), 3) := by decide +kernel
theorem dL_with_27 : decode cL_with 27 = .ok (.aload_n 2, 1) := by decide +kernel
theorem dL_with_28 : decode cL_with 28 = .ok (.aload_n 0, 1) := by decide +kernel
theorem dL_with_29 : decode cL_with 29 = .ok (.arraylength, 1) := by decide +kernel
theorem dL_with_30 : decode cL_with 30 = .ok (.iload_n 1, 1) := by decide +kernel
theorem dL_with_31 : decode cL_with 31 = .ok (.iastore, 1) := by decide +kernel
theorem dL_with_32 : decode cL_with 32 = .ok (.aload_n 2, 1) := by decide +kernel
theorem dL_with_33 : decode cL_with 33 = .ok (.areturn, 1) := by decide +kernel
theorem okL_with : okY yL_with 2 := ⟨by decide +kernel, by decide +kernel, by decide +kernel⟩
def wpL_with_L9 (cB : Nat) (Post : Nat → Mu → Prop)  : Nat → Mu → Nat → Nat → Int32 → Nat → Int32 → Prop
  | 0 => fun _ _ _ _ _ _ => False
  | nn9 + 1 => fun mu u v0 v1 v2 v3 => ∃ n4 f4, mI mu v0 = some (n4, f4) ∧ ((nI n4) ≤ v3 → ∃ n5 f5, mI mu v0 = some (n5, f5) ∧ ∃ n6 f6 k6, mI mu v2 = some (n6, f6) ∧ nI n5 = nI k6 ∧ k6 < n6 ∧ n6 ≤ 1000 ∧ ∀ mu7, mu7 = sI mu v2 (n6, upd f6 k6 v1) → u ≤ cB ∧ Post v2 mu7) ∧ (¬ (nI n4) ≤ v3 → ∃ n8 f8 k8, mI mu v0 = some (n8, f8) ∧ v3 = nI k8 ∧ k8 < n8 ∧ n8 ≤ 1000 ∧ ∃ n9 f9 k9, mI mu v2 = some (n9, f9) ∧ v3 = nI k9 ∧ k9 < n9 ∧ n9 ≤ 1000 ∧ ∀ mu10, mu10 = sI mu v2 (n9, upd f9 k9 (f8 k8)) → (wpL_with_L9 cB Post  nn9) mu10 u v0 v1 v2 (v3 + (1 : Int32)))
def wpL_with (cB : Nat) (mu : Mu) (v0 : Nat) (v1 : Int32) (Post : Nat → Mu → Prop) : Prop := ∃ n1 f1, mI mu v0 = some (n1, f1) ∧ ∃ n2, (nI n1) + (1 : Int32) = nI n2 ∧ n2 ≤ 1000 ∧ 0 + (1 + n2 / 16) ≤ cB ∧ ∀ a2, frM mu a2 → ∀ mu3, mu3 = sI mu a2 (n2, fun _ => 0) → ∃ m_, wpL_with_L9 cB Post  m_ mu3 (0 + (1 + n2 / 16)) v0 v1 a2 (0 : Int32)
set_option maxHeartbeats 4000000 in
set_option maxRecDepth 100000 in
theorem conL_with (l : Launch) (D : va_G) (cA : Nat → ClassId) (cB : Nat) (mu : Mu) (v0 : Nat) (v1 : Int32) (Post : Nat → Mu → Prop)  (H : wpL_with cB mu v0 v1 Post) {w0 ws0 : va_W} (hR : LR cA w0 ws0 mu) : ConN l D cA yL_with (wm yL_with cL_with 4 (some (.array .int))) { frames := 0, cells := cB, slots := 16 * cB, locals := 0 } ws0 [.ref v0, .int v1] cB (16 * cB) (PR (fun r w1 => ∃ m1, LR cA w0 w1 m1 ∧ Post r m1)) := by
  refine ConN.of (by decide) (Nat.le_of_ble_eq_true rfl) ?_
  intro p e s m args below meth c C hF hr hini
  have B9 : ∀  (n : Nat) (ws : va_W) (mu : Mu) (u : Nat) (v0 : Nat) (v1 : Int32) (v2 : Nat) (v3 : Int32), LR cA w0 ws mu → wpL_with_L9 cB Post  n mu u v0 v1 v2 v3 → Kf p l e { frames := 0, cells := cB, slots := 16 * cB, locals := 0 } s m args below meth c D (va_A ws0 s.heap.size) 4 u (16 * u) (MQ below (QC D ws0 s.heap.size (PR (fun r w1 => ∃ m1, LR cA w0 w1 m1 ∧ Post r m1))) args s cB (16 * cB) (va_A ws0 s.heap.size)) ws 9 [(0, .ref v0), (1, .int v1), (2, .ref v2), (3, .int v3)] [] := by
    intro  n
    induction n with
    | zero =>
      intro ws mu u v0 v1 v2 v3 hR H
      exact H.elim
    | succ nn9 ih9 =>
      intro ws mu u v0 v1 v2 v3 hR H
      have H : ∃ n4 f4, mI mu v0 = some (n4, f4) ∧ ((nI n4) ≤ v3 → ∃ n5 f5, mI mu v0 = some (n5, f5) ∧ ∃ n6 f6 k6, mI mu v2 = some (n6, f6) ∧ nI n5 = nI k6 ∧ k6 < n6 ∧ n6 ≤ 1000 ∧ ∀ mu7, mu7 = sI mu v2 (n6, upd f6 k6 v1) → u ≤ cB ∧ Post v2 mu7) ∧ (¬ (nI n4) ≤ v3 → ∃ n8 f8 k8, mI mu v0 = some (n8, f8) ∧ v3 = nI k8 ∧ k8 < n8 ∧ n8 ≤ 1000 ∧ ∃ n9 f9 k9, mI mu v2 = some (n9, f9) ∧ v3 = nI k9 ∧ k9 < n9 ∧ n9 ≤ 1000 ∧ ∀ mu10, mu10 = sI mu v2 (n9, upd f9 k9 (f8 k8)) → (wpL_with_L9 cB Post  nn9) mu10 u v0 v1 v2 (v3 + (1 : Int32))) := H
      refine k_iload_n C 3 (pc := 9) dL_with_9 rfl rfl ?_
      refine k_aload_n C 0 (pc := 10) dL_with_10 rfl rfl ?_
      obtain ⟨n4, f4, hx_, H⟩ := H
      refine l_alen C hR (pc := 11) hx_ dL_with_11 ?_
      refine k_icmp_ge C (pc := 12) (tgt := 27) dL_with_12 (by decide) (fun c_12 => ?_) (fun c_12 => ?_)
      · have H := H.1 c_12
        refine k_aload_n C 2 (pc := 27) dL_with_27 rfl rfl ?_
        refine k_aload_n C 0 (pc := 28) dL_with_28 rfl rfl ?_
        obtain ⟨n5, f5, hx_, H⟩ := H
        refine l_alen C hR (pc := 29) hx_ dL_with_29 ?_
        refine k_iload_n C 1 (pc := 30) dL_with_30 rfl rfl ?_
        obtain ⟨n6, f6, k6, hx_, hk_, hl_, hn_, H⟩ := H
        refine k_eq (pc := 31) (st' := [.int v1, .int (nI k6), .ref v2]) rfl rfl (by rw [hk_]) ?_
        refine l_iast C hR (pc := 31) hx_ hl_ hn_ dL_with_31 (fun w1 hR => ?_)
        obtain ⟨mu7, hm7⟩ : ∃ m_, m_ = sI mu v2 (n6, upd f6 k6 v1) := ⟨_, rfl⟩
        rw [← hm7] at hR
        have H := H mu7 hm7
        refine k_aload_n C 2 (pc := 32) dL_with_32 rfl rfl ?_
        obtain ⟨hc_, H⟩ := H
        refine k_widen (k := cB) (n := 16 * cB) hc_ (Nat.mul_le_mul_left 16 hc_) ?_
        exact k_aret C (pc := 33) hr (Or.inr ⟨_, rfl⟩) dL_with_33 ⟨mu7, hR, H⟩
      · have H := H.2 c_12
        refine k_aload_n C 2 (pc := 15) dL_with_15 rfl rfl ?_
        refine k_iload_n C 3 (pc := 16) dL_with_16 rfl rfl ?_
        refine k_aload_n C 0 (pc := 17) dL_with_17 rfl rfl ?_
        refine k_iload_n C 3 (pc := 18) dL_with_18 rfl rfl ?_
        obtain ⟨n8, f8, k8, hx_, hk_, hl_, hn_, H⟩ := H
        refine k_eq (pc := 19) (st' := [.int (nI k8), .ref v0, .int v3, .ref v2]) rfl rfl (by rw [hk_]) ?_
        refine l_iald C hR (pc := 19) hx_ hl_ hn_ dL_with_19 ?_
        obtain ⟨n9, f9, k9, hx_, hk_, hl_, hn_, H⟩ := H
        refine k_eq (pc := 20) (st' := [.int (f8 k8), .int (nI k9), .ref v2]) rfl rfl (by rw [hk_]) ?_
        refine l_iast C hR (pc := 20) hx_ hl_ hn_ dL_with_20 (fun w1 hR => ?_)
        obtain ⟨mu10, hm10⟩ : ∃ m_, m_ = sI mu v2 (n9, upd f9 k9 (f8 k8)) := ⟨_, rfl⟩
        rw [← hm10] at hR
        have H := H mu10 hm10
        refine k_iinc C (pc := 21) (k := 3) (v := v3 + (1 : Int32)) dL_with_21 rfl rfl (Nat.lt_of_lt_of_le (Nat.lt_succ_self _) (Nat.le_of_ble_eq_true rfl)) (lv' := [(3, .int (v3 + (1 : Int32))), (0, .ref v0), (1, .int v1), (2, .ref v2)]) rfl ?_
        refine k_goto C (pc := 24) (tgt := 9) dL_with_24 (by decide) ?_
        refine k_lv (pc := 9) [1, 2, 3, 0] (lv' := [(0, .ref v0), (1, .int v1), (2, .ref v2), (3, .int (v3 + (1 : Int32)))]) rfl ?_
        exact ih9 _ mu10 u v0 v1 v2 (v3 + (1 : Int32)) hR H
  refine k_eq (ws' := ws0) (lv' := [(0, .ref v0), (1, .int v1)]) (st' := []) rfl rfl rfl ?_
  have H : ∃ n1 f1, mI mu v0 = some (n1, f1) ∧ ∃ n2, (nI n1) + (1 : Int32) = nI n2 ∧ n2 ≤ 1000 ∧ 0 + (1 + n2 / 16) ≤ cB ∧ ∀ a2, frM mu a2 → ∀ mu3, mu3 = sI mu a2 (n2, fun _ => 0) → ∃ m_, wpL_with_L9 cB Post  m_ mu3 (0 + (1 + n2 / 16)) v0 v1 a2 (0 : Int32) := H
  refine k_widen (k := 0) (n := 16 * 0) (Nat.le_refl _) (Nat.le_refl _) ?_
  refine k_aload_n C 0 (pc := 0) dL_with_0 rfl rfl ?_
  obtain ⟨n1, f1, hx_, H⟩ := H
  refine l_alen C hR (pc := 1) hx_ dL_with_1 ?_
  refine k_iconst C (pc := 2) (v := (1 : Int32)) dL_with_2 rfl ?_
  refine k_iadd C (pc := 3) dL_with_3 ?_
  obtain ⟨n2, hk_, hn_, hc_, H⟩ := H
  refine k_eq (pc := 4) (st' := [.int (nI n2)]) rfl rfl (by rw [hk_]) ?_
  refine l_newI C hR (u := 0) (pc := 4) hn_ hc_ (Nat.mul_le_mul_left 16 hc_) dL_with_4 (fun a2 w1 hf_ hR => ?_)
  have H := H a2 hf_
  obtain ⟨mu3, hm3⟩ : ∃ m_, m_ = sI mu a2 (n2, fun _ => 0) := ⟨_, rfl⟩
  rw [← hm3] at hR
  have H := H mu3 hm3
  refine k_astore_n C (pc := 6) dL_with_6 rfl (Nat.lt_of_lt_of_le (Nat.lt_succ_self _) (Nat.le_of_ble_eq_true rfl)) (lv' := [(2, .ref a2), (0, .ref v0), (1, .int v1)]) rfl ?_
  refine k_iconst C (pc := 7) (v := (0 : Int32)) dL_with_7 rfl ?_
  refine k_istore_n C (pc := 8) dL_with_8 rfl (Nat.lt_of_lt_of_le (Nat.lt_succ_self _) (Nat.le_of_ble_eq_true rfl)) (lv' := [(3, .int (0 : Int32)), (2, .ref a2), (0, .ref v0), (1, .int v1)]) rfl ?_
  obtain ⟨n_, H⟩ := H
  refine k_lv (pc := 9) [2, 3, 1, 0] (lv' := [(0, .ref v0), (1, .int v1), (2, .ref a2), (3, .int (0 : Int32))]) rfl ?_
  exact B9  n_ _ mu3 (0 + (1 + n2 / 16)) v0 v1 a2 (0 : Int32) hR H
/-! WidowWatchLaw.without([II)[I -/
theorem dL_without_0 : decode cL_without 0 = .ok (.aload_n 0, 1) := by decide +kernel
theorem dL_without_1 : decode cL_without 1 = .ok (.arraylength, 1) := by decide +kernel
theorem dL_without_2 : decode cL_without 2 = .ok (.iconst 1, 1) := by decide +kernel
theorem dL_without_3 : decode cL_without 3 = .ok (.isub, 1) := by decide +kernel
theorem dL_without_4 : decode cL_without 4 = .ok (.newarray .int, 2) := by decide +kernel
theorem dL_without_6 : decode cL_without 6 = .ok (.astore_n 2, 1) := by decide +kernel
theorem dL_without_7 : decode cL_without 7 = .ok (.iconst 0, 1) := by decide +kernel
theorem dL_without_8 : decode cL_without 8 = .ok (.istore_n 3, 1) := by decide +kernel
theorem dL_without_9 : decode cL_without 9 = .ok (.iload_n 3, 1) := by decide +kernel
theorem dL_without_10 : decode cL_without 10 = .ok (.aload_n 2, 1) := by decide +kernel
theorem dL_without_11 : decode cL_without 11 = .ok (.arraylength, 1) := by decide +kernel
theorem dL_without_12 : decode cL_without 12 = .ok (.if_icmp .ge 26, 3) := by decide +kernel
theorem dL_without_15 : decode cL_without 15 = .ok (.aload_n 2, 1) := by decide +kernel
theorem dL_without_16 : decode cL_without 16 = .ok (.iload_n 3, 1) := by decide +kernel
theorem dL_without_17 : decode cL_without 17 = .ok (.aload_n 0, 1) := by decide +kernel
theorem dL_without_18 : decode cL_without 18 = .ok (.iload_n 3, 1) := by decide +kernel
theorem dL_without_19 : decode cL_without 19 = .ok (.iload_n 1, 1) := by decide +kernel
theorem dL_without_20 : decode cL_without 20 = .ok (.if_icmp .ge 7, 3) := by decide +kernel
theorem dL_without_23 : decode cL_without 23 = .ok (.iload_n 3, 1) := by decide +kernel
theorem dL_without_24 : decode cL_without 24 = .ok (.goto 6, 3) := by decide +kernel
theorem dL_without_27 : decode cL_without 27 = .ok (.iload_n 3, 1) := by decide +kernel
theorem dL_without_28 : decode cL_without 28 = .ok (.iconst 1, 1) := by decide +kernel
theorem dL_without_29 : decode cL_without 29 = .ok (.iadd, 1) := by decide +kernel
theorem dL_without_30 : decode cL_without 30 = .ok (.iaload, 1) := by decide +kernel
theorem dL_without_31 : decode cL_without 31 = .ok (.iastore, 1) := by decide +kernel
theorem dL_without_32 : decode cL_without 32 = .ok (.iinc 3 1, 3) := by decide +kernel
theorem dL_without_35 : decode cL_without 35 = .ok (.goto (-26), 3) := by decide +kernel
theorem dL_without_38 : decode cL_without 38 = .ok (.aload_n 2, 1) := by decide +kernel
theorem dL_without_39 : decode cL_without 39 = .ok (.areturn, 1) := by decide +kernel
theorem okL_without : okY yL_without 2 := ⟨by decide +kernel, by decide +kernel, by decide +kernel⟩
def wpL_without_b30 (cB : Nat) (Post : Nat → Mu → Prop) (K9 : Mu → Nat → Nat → Int32 → Nat → Int32 → Prop) (mu : Mu) (u : Nat) (v0 : Nat) (v1 : Int32) (v2 : Nat) (v3 : Int32) (s0 : Nat) (s1 : Int32) (s2 : Nat) (s3 : Int32) : Prop := ∃ n5 f5 k5, mI mu s2 = some (n5, f5) ∧ s3 = nI k5 ∧ k5 < n5 ∧ n5 ≤ 1000 ∧ ∃ n6 f6 k6, mI mu s0 = some (n6, f6) ∧ s1 = nI k6 ∧ k6 < n6 ∧ n6 ≤ 1000 ∧ ∀ mu7, mu7 = sI mu s0 (n6, upd f6 k6 (f5 k5)) → K9 mu7 u v0 v1 v2 (v3 + (1 : Int32))
def wpL_without_L9 (cB : Nat) (Post : Nat → Mu → Prop)  : Nat → Mu → Nat → Nat → Int32 → Nat → Int32 → Prop
  | 0 => fun _ _ _ _ _ _ => False
  | nn9 + 1 => fun mu u v0 v1 v2 v3 => ∃ n4 f4, mI mu v2 = some (n4, f4) ∧ ((nI n4) ≤ v3 → u ≤ cB ∧ Post v2 mu) ∧ (¬ (nI n4) ≤ v3 → (v1 ≤ v3 → wpL_without_b30 cB Post (wpL_without_L9 cB Post  nn9) mu u v0 v1 v2 v3 v2 v3 v0 (v3 + (1 : Int32))) ∧ (¬ v1 ≤ v3 → wpL_without_b30 cB Post (wpL_without_L9 cB Post  nn9) mu u v0 v1 v2 v3 v2 v3 v0 v3))
def wpL_without (cB : Nat) (mu : Mu) (v0 : Nat) (v1 : Int32) (Post : Nat → Mu → Prop) : Prop := ∃ n1 f1, mI mu v0 = some (n1, f1) ∧ ∃ n2, (nI n1) - (1 : Int32) = nI n2 ∧ n2 ≤ 1000 ∧ 0 + (1 + n2 / 16) ≤ cB ∧ ∀ a2, frM mu a2 → ∀ mu3, mu3 = sI mu a2 (n2, fun _ => 0) → ∃ m_, wpL_without_L9 cB Post  m_ mu3 (0 + (1 + n2 / 16)) v0 v1 a2 (0 : Int32)
set_option maxHeartbeats 4000000 in
set_option maxRecDepth 100000 in
theorem conL_without (l : Launch) (D : va_G) (cA : Nat → ClassId) (cB : Nat) (mu : Mu) (v0 : Nat) (v1 : Int32) (Post : Nat → Mu → Prop)  (H : wpL_without cB mu v0 v1 Post) {w0 ws0 : va_W} (hR : LR cA w0 ws0 mu) : ConN l D cA yL_without (wm yL_without cL_without 4 (some (.array .int))) { frames := 0, cells := cB, slots := 16 * cB, locals := 0 } ws0 [.ref v0, .int v1] cB (16 * cB) (PR (fun r w1 => ∃ m1, LR cA w0 w1 m1 ∧ Post r m1)) := by
  refine ConN.of (by decide) (Nat.le_of_ble_eq_true rfl) ?_
  intro p e s m args below meth c C hF hr hini
  have B30 : ∀ (K9 : Mu → Nat → Nat → Int32 → Nat → Int32 → Prop) (hK9 : ∀ (ws : va_W) (mu : Mu) (u : Nat) (v0 : Nat) (v1 : Int32) (v2 : Nat) (v3 : Int32), LR cA w0 ws mu → K9 mu u v0 v1 v2 v3 → Kf p l e { frames := 0, cells := cB, slots := 16 * cB, locals := 0 } s m args below meth c D (va_A ws0 s.heap.size) 4 u (16 * u) (MQ below (QC D ws0 s.heap.size (PR (fun r w1 => ∃ m1, LR cA w0 w1 m1 ∧ Post r m1))) args s cB (16 * cB) (va_A ws0 s.heap.size)) ws 9 [(0, .ref v0), (1, .int v1), (2, .ref v2), (3, .int v3)] []) (ws : va_W) (mu : Mu) (u : Nat) (v0 : Nat) (v1 : Int32) (v2 : Nat) (v3 : Int32) (s0 : Nat) (s1 : Int32) (s2 : Nat) (s3 : Int32), LR cA w0 ws mu → wpL_without_b30 cB Post K9 mu u v0 v1 v2 v3 s0 s1 s2 s3 → Kf p l e { frames := 0, cells := cB, slots := 16 * cB, locals := 0 } s m args below meth c D (va_A ws0 s.heap.size) 4 u (16 * u) (MQ below (QC D ws0 s.heap.size (PR (fun r w1 => ∃ m1, LR cA w0 w1 m1 ∧ Post r m1))) args s cB (16 * cB) (va_A ws0 s.heap.size)) ws 30 [(0, .ref v0), (1, .int v1), (2, .ref v2), (3, .int v3)] [.int s3, .ref s2, .int s1, .ref s0] := by
    intro K9 hK9 ws mu u v0 v1 v2 v3 s0 s1 s2 s3 hR H
    have H : ∃ n5 f5 k5, mI mu s2 = some (n5, f5) ∧ s3 = nI k5 ∧ k5 < n5 ∧ n5 ≤ 1000 ∧ ∃ n6 f6 k6, mI mu s0 = some (n6, f6) ∧ s1 = nI k6 ∧ k6 < n6 ∧ n6 ≤ 1000 ∧ ∀ mu7, mu7 = sI mu s0 (n6, upd f6 k6 (f5 k5)) → K9 mu7 u v0 v1 v2 (v3 + (1 : Int32)) := H
    obtain ⟨n5, f5, k5, hx_, hk_, hl_, hn_, H⟩ := H
    refine k_eq (pc := 30) (st' := [.int (nI k5), .ref s2, .int s1, .ref s0]) rfl rfl (by rw [hk_]) ?_
    refine l_iald C hR (pc := 30) hx_ hl_ hn_ dL_without_30 ?_
    obtain ⟨n6, f6, k6, hx_, hk_, hl_, hn_, H⟩ := H
    refine k_eq (pc := 31) (st' := [.int (f5 k5), .int (nI k6), .ref s0]) rfl rfl (by rw [hk_]) ?_
    refine l_iast C hR (pc := 31) hx_ hl_ hn_ dL_without_31 (fun w1 hR => ?_)
    obtain ⟨mu7, hm7⟩ : ∃ m_, m_ = sI mu s0 (n6, upd f6 k6 (f5 k5)) := ⟨_, rfl⟩
    rw [← hm7] at hR
    have H := H mu7 hm7
    refine k_iinc C (pc := 32) (k := 3) (v := v3 + (1 : Int32)) dL_without_32 rfl rfl (Nat.lt_of_lt_of_le (Nat.lt_succ_self _) (Nat.le_of_ble_eq_true rfl)) (lv' := [(3, .int (v3 + (1 : Int32))), (0, .ref v0), (1, .int v1), (2, .ref v2)]) rfl ?_
    refine k_goto C (pc := 35) (tgt := 9) dL_without_35 (by decide) ?_
    refine k_lv (pc := 9) [1, 2, 3, 0] (lv' := [(0, .ref v0), (1, .int v1), (2, .ref v2), (3, .int (v3 + (1 : Int32)))]) rfl ?_
    exact hK9 _ mu7 u v0 v1 v2 (v3 + (1 : Int32)) hR H
  have B9 : ∀  (n : Nat) (ws : va_W) (mu : Mu) (u : Nat) (v0 : Nat) (v1 : Int32) (v2 : Nat) (v3 : Int32), LR cA w0 ws mu → wpL_without_L9 cB Post  n mu u v0 v1 v2 v3 → Kf p l e { frames := 0, cells := cB, slots := 16 * cB, locals := 0 } s m args below meth c D (va_A ws0 s.heap.size) 4 u (16 * u) (MQ below (QC D ws0 s.heap.size (PR (fun r w1 => ∃ m1, LR cA w0 w1 m1 ∧ Post r m1))) args s cB (16 * cB) (va_A ws0 s.heap.size)) ws 9 [(0, .ref v0), (1, .int v1), (2, .ref v2), (3, .int v3)] [] := by
    intro  n
    induction n with
    | zero =>
      intro ws mu u v0 v1 v2 v3 hR H
      exact H.elim
    | succ nn9 ih9 =>
      intro ws mu u v0 v1 v2 v3 hR H
      have H : ∃ n4 f4, mI mu v2 = some (n4, f4) ∧ ((nI n4) ≤ v3 → u ≤ cB ∧ Post v2 mu) ∧ (¬ (nI n4) ≤ v3 → (v1 ≤ v3 → wpL_without_b30 cB Post (wpL_without_L9 cB Post  nn9) mu u v0 v1 v2 v3 v2 v3 v0 (v3 + (1 : Int32))) ∧ (¬ v1 ≤ v3 → wpL_without_b30 cB Post (wpL_without_L9 cB Post  nn9) mu u v0 v1 v2 v3 v2 v3 v0 v3)) := H
      refine k_iload_n C 3 (pc := 9) dL_without_9 rfl rfl ?_
      refine k_aload_n C 2 (pc := 10) dL_without_10 rfl rfl ?_
      obtain ⟨n4, f4, hx_, H⟩ := H
      refine l_alen C hR (pc := 11) hx_ dL_without_11 ?_
      refine k_icmp_ge C (pc := 12) (tgt := 38) dL_without_12 (by decide) (fun c_12 => ?_) (fun c_12 => ?_)
      · have H := H.1 c_12
        refine k_aload_n C 2 (pc := 38) dL_without_38 rfl rfl ?_
        obtain ⟨hc_, H⟩ := H
        refine k_widen (k := cB) (n := 16 * cB) hc_ (Nat.mul_le_mul_left 16 hc_) ?_
        exact k_aret C (pc := 39) hr (Or.inr ⟨_, rfl⟩) dL_without_39 ⟨mu, hR, H⟩
      · have H := H.2 c_12
        refine k_aload_n C 2 (pc := 15) dL_without_15 rfl rfl ?_
        refine k_iload_n C 3 (pc := 16) dL_without_16 rfl rfl ?_
        refine k_aload_n C 0 (pc := 17) dL_without_17 rfl rfl ?_
        refine k_iload_n C 3 (pc := 18) dL_without_18 rfl rfl ?_
        refine k_iload_n C 1 (pc := 19) dL_without_19 rfl rfl ?_
        refine k_icmp_ge C (pc := 20) (tgt := 27) dL_without_20 (by decide) (fun c_20 => ?_) (fun c_20 => ?_)
        · have H := H.1 c_20
          refine k_iload_n C 3 (pc := 27) dL_without_27 rfl rfl ?_
          refine k_iconst C (pc := 28) (v := (1 : Int32)) dL_without_28 rfl ?_
          refine k_iadd C (pc := 29) dL_without_29 ?_
          refine k_lv (pc := 30) [0, 1, 2, 3] (lv' := [(0, .ref v0), (1, .int v1), (2, .ref v2), (3, .int v3)]) rfl ?_
          exact B30 (wpL_without_L9 cB Post  nn9) ih9 _ mu u v0 v1 v2 v3 v2 v3 v0 (v3 + (1 : Int32)) hR H
        · have H := H.2 c_20
          refine k_iload_n C 3 (pc := 23) dL_without_23 rfl rfl ?_
          refine k_goto C (pc := 24) (tgt := 30) dL_without_24 (by decide) ?_
          refine k_lv (pc := 30) [0, 1, 2, 3] (lv' := [(0, .ref v0), (1, .int v1), (2, .ref v2), (3, .int v3)]) rfl ?_
          exact B30 (wpL_without_L9 cB Post  nn9) ih9 _ mu u v0 v1 v2 v3 v2 v3 v0 v3 hR H
  refine k_eq (ws' := ws0) (lv' := [(0, .ref v0), (1, .int v1)]) (st' := []) rfl rfl rfl ?_
  have H : ∃ n1 f1, mI mu v0 = some (n1, f1) ∧ ∃ n2, (nI n1) - (1 : Int32) = nI n2 ∧ n2 ≤ 1000 ∧ 0 + (1 + n2 / 16) ≤ cB ∧ ∀ a2, frM mu a2 → ∀ mu3, mu3 = sI mu a2 (n2, fun _ => 0) → ∃ m_, wpL_without_L9 cB Post  m_ mu3 (0 + (1 + n2 / 16)) v0 v1 a2 (0 : Int32) := H
  refine k_widen (k := 0) (n := 16 * 0) (Nat.le_refl _) (Nat.le_refl _) ?_
  refine k_aload_n C 0 (pc := 0) dL_without_0 rfl rfl ?_
  obtain ⟨n1, f1, hx_, H⟩ := H
  refine l_alen C hR (pc := 1) hx_ dL_without_1 ?_
  refine k_iconst C (pc := 2) (v := (1 : Int32)) dL_without_2 rfl ?_
  refine k_isub C (pc := 3) dL_without_3 ?_
  obtain ⟨n2, hk_, hn_, hc_, H⟩ := H
  refine k_eq (pc := 4) (st' := [.int (nI n2)]) rfl rfl (by rw [hk_]) ?_
  refine l_newI C hR (u := 0) (pc := 4) hn_ hc_ (Nat.mul_le_mul_left 16 hc_) dL_without_4 (fun a2 w1 hf_ hR => ?_)
  have H := H a2 hf_
  obtain ⟨mu3, hm3⟩ : ∃ m_, m_ = sI mu a2 (n2, fun _ => 0) := ⟨_, rfl⟩
  rw [← hm3] at hR
  have H := H mu3 hm3
  refine k_astore_n C (pc := 6) dL_without_6 rfl (Nat.lt_of_lt_of_le (Nat.lt_succ_self _) (Nat.le_of_ble_eq_true rfl)) (lv' := [(2, .ref a2), (0, .ref v0), (1, .int v1)]) rfl ?_
  refine k_iconst C (pc := 7) (v := (0 : Int32)) dL_without_7 rfl ?_
  refine k_istore_n C (pc := 8) dL_without_8 rfl (Nat.lt_of_lt_of_le (Nat.lt_succ_self _) (Nat.le_of_ble_eq_true rfl)) (lv' := [(3, .int (0 : Int32)), (2, .ref a2), (0, .ref v0), (1, .int v1)]) rfl ?_
  obtain ⟨n_, H⟩ := H
  refine k_lv (pc := 9) [2, 3, 1, 0] (lv' := [(0, .ref v0), (1, .int v1), (2, .ref a2), (3, .int (0 : Int32))]) rfl ?_
  exact B9  n_ _ mu3 (0 + (1 + n2 / 16)) v0 v1 a2 (0 : Int32) hR H
