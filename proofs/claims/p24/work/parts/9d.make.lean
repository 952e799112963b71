/-! WidowWatchLaw$Book.copy()LWidowWatchLaw$Book; -/
theorem dX7_copy_0 : decode cX7_copy 0 = .ok (.new 8, 3) := by decide +kernel
theorem dX7_copy_3 : decode cX7_copy 3 = .ok (.dup, 1) := by decide +kernel
theorem dX7_copy_4 : decode cX7_copy 4 = .ok (.invokespecial 35, 3) := by decide +kernel
theorem dX7_copy_7 : decode cX7_copy 7 = .ok (.astore_n 1, 1) := by decide +kernel
theorem dX7_copy_8 : decode cX7_copy 8 = .ok (.aload_n 1, 1) := by decide +kernel
theorem dX7_copy_9 : decode cX7_copy 9 = .ok (.aload_n 0, 1) := by decide +kernel
theorem dX7_copy_10 : decode cX7_copy 10 = .ok (.getfield 7, 3) := by decide +kernel
theorem dX7_copy_13 : decode cX7_copy 13 = .ok (.putfield 7, 3) := by decide +kernel
theorem dX7_copy_16 : decode cX7_copy 16 = .ok (.aload_n 1, 1) := by decide +kernel
theorem dX7_copy_17 : decode cX7_copy 17 = .ok (.aload_n 0, 1) := by decide +kernel
theorem dX7_copy_18 : decode cX7_copy 18 = .ok (.getfield 13, 3) := by decide +kernel
theorem dX7_copy_21 : decode cX7_copy 21 = .ok (.putfield 13, 3) := by decide +kernel
theorem dX7_copy_24 : decode cX7_copy 24 = .ok (.aload_n 1, 1) := by decide +kernel
theorem dX7_copy_25 : decode cX7_copy 25 = .ok (.aload_n 0, 1) := by decide +kernel
theorem dX7_copy_26 : decode cX7_copy 26 = .ok (.getfield 16, 3) := by decide +kernel
theorem dX7_copy_29 : decode cX7_copy 29 = .ok (.putfield 16, 3) := by decide +kernel
theorem dX7_copy_32 : decode cX7_copy 32 = .ok (.aload_n 1, 1) := by decide +kernel
theorem dX7_copy_33 : decode cX7_copy 33 = .ok (.aload_n 0, 1) := by decide +kernel
theorem dX7_copy_34 : decode cX7_copy 34 = .ok (.getfield 19, 3) := by decide +kernel
theorem dX7_copy_37 : decode cX7_copy 37 = .ok (.putfield 19, 3) := by decide +kernel
theorem dX7_copy_40 : decode cX7_copy 40 = .ok (.aload_n 1, 1) := by decide +kernel
theorem dX7_copy_41 : decode cX7_copy 41 = .ok (.aload_n 0, 1) := by decide +kernel
theorem dX7_copy_42 : decode cX7_copy 42 = .ok (.getfield 22, 3) := by decide +kernel
theorem dX7_copy_45 : decode cX7_copy 45 = .ok (.invokevirtual 36, 3) := by decide +kernel
theorem dX7_copy_48 : decode cX7_copy 48 = .ok (.checkcast 37, 3) := by decide +kernel
theorem dX7_copy_51 : decode cX7_copy 51 = .ok (.putfield 22, 3) := by decide +kernel
theorem dX7_copy_54 : decode cX7_copy 54 = .ok (.aload_n 1, 1) := by decide +kernel
theorem dX7_copy_55 : decode cX7_copy 55 = .ok (.aload_n 0, 1) := by decide +kernel
theorem dX7_copy_56 : decode cX7_copy 56 = .ok (.getfield 28, 3) := by decide +kernel
theorem dX7_copy_59 : decode cX7_copy 59 = .ok (.arraylength, 1) := by decide +kernel
theorem dX7_copy_60 : decode cX7_copy 60 = .ok (.anewarray 26, 3) := by decide +kernel
theorem dX7_copy_63 : decode cX7_copy 63 = .ok (.putfield 28, 3) := by decide +kernel
theorem dX7_copy_66 : decode cX7_copy 66 = .ok (.iconst 0, 1) := by decide +kernel
theorem dX7_copy_67 : decode cX7_copy 67 = .ok (.istore_n 2, 1) := by decide +kernel
theorem dX7_copy_68 : decode cX7_copy 68 = .ok (.iload_n 2, 1) := by decide +kernel
theorem dX7_copy_69 : decode cX7_copy 69 = .ok (.aload_n 0, 1) := by decide +kernel
theorem dX7_copy_70 : decode cX7_copy 70 = .ok (.getfield 28, 3) := by decide +kernel
theorem dX7_copy_73 : decode cX7_copy 73 = .ok (.arraylength, 1) := by decide +kernel
theorem dX7_copy_74 : decode cX7_copy 74 = .ok (.if_icmp .ge 24, 3) := by decide +kernel
theorem dX7_copy_77 : decode cX7_copy 77 = .ok (.aload_n 1, 1) := by decide +kernel
theorem dX7_copy_78 : decode cX7_copy 78 = .ok (.getfield 28, 3) := by decide +kernel
theorem dX7_copy_81 : decode cX7_copy 81 = .ok (.iload_n 2, 1) := by decide +kernel
theorem dX7_copy_82 : decode cX7_copy 82 = .ok (.aload_n 0, 1) := by decide +kernel
theorem dX7_copy_83 : decode cX7_copy 83 = .ok (.getfield 28, 3) := by decide +kernel
theorem dX7_copy_86 : decode cX7_copy 86 = .ok (.iload_n 2, 1) := by decide +kernel
theorem dX7_copy_87 : decode cX7_copy 87 = .ok (.aaload, 1) := by decide +kernel
theorem dX7_copy_88 : decode cX7_copy 88 = .ok (.invokevirtual 41, 3) := by decide +kernel
theorem dX7_copy_91 : decode cX7_copy 91 = .ok (.aastore, 1) := by decide +kernel
theorem dX7_copy_92 : decode cX7_copy 92 = .ok (.iinc 2 1, 3) := by decide +kernel
theorem dX7_copy_95 : decode cX7_copy 95 = .ok (.goto (-27), 3) := by decide +kernel
theorem dX7_copy_98 : decode cX7_copy 98 = .ok (.aload_n 1, 1) := by decide +kernel
theorem dX7_copy_99 : decode cX7_copy 99 = .ok (.areturn, 1) := by decide +kernel
theorem okX7_copy : okY yX7_copy 0 := ⟨by decide +kernel, by decide +kernel, by decide +kernel⟩
def wpX7_copy_L68 (cB : Nat) (Post : Nat → Mu → Prop)  : Nat → Mu → Nat → Nat → Nat → Int32 → Prop
  | 0 => fun _ _ _ _ _ => False
  | nn68 + 1 => fun mu u v0 v1 v2 => ∃ x29, mB mu v0 = some x29 ∧ ∃ a29, x29.2.2.2.2.2.1 = some a29 ∧ ∃ n30 f30, mQ mu a29 = some (2, n30, f30) ∧ ((nI n30) ≤ v2 → u ≤ cB ∧ Post v1 mu) ∧ (¬ (nI n30) ≤ v2 → ∃ x31, mB mu v1 = some x31 ∧ ∃ a31, x31.2.2.2.2.2.1 = some a31 ∧ ∃ x32, mB mu v0 = some x32 ∧ ∃ a32, x32.2.2.2.2.2.1 = some a32 ∧ ∃ n33 f33 k33, mQ mu a32 = some (2, n33, f33) ∧ v2 = nI k33 ∧ k33 < n33 ∧ n33 ≤ 1000 ∧ ∃ a33, f33 k33 = some a33 ∧ ∃ x34, mP mu a33 = some x34 ∧ ∃ q36, u + q36 ≤ cB ∧ wpX8_copy q36 mu a33 (fun r35 mu37 => ∃ n38 f38 k38, mQ mu37 a31 = some (2, n38, f38) ∧ v2 = nI k38 ∧ k38 < n38 ∧ n38 ≤ 1000 ∧ ∃ x38, mP mu37 r35 = some x38 ∧ ∀ mu39, mu39 = sQ mu37 a31 (2, n38, va_up f38 k38 (some r35)) → (wpX7_copy_L68 cB Post  nn68) mu39 (u + q36) v0 v1 (v2 + (1 : Int32))))
def wpX7_copy (cB : Nat) (mu : Mu) (v0 : Nat) (Post : Nat → Mu → Prop) : Prop := 0 + 1 ≤ cB ∧ ∀ a1, frM mu a1 → ∀ mu2, mu2 = sB mu a1 (0, 0, 0, 0, none, none, none, none, none, 0) → ∃ q4, (0 + 1) + q4 ≤ cB ∧ wpX7_init q4 mu2 a1 (fun mu5 => ∃ x6, mB mu5 v0 = some x6 ∧ ∃ x7, mB mu5 a1 = some x7 ∧ ∀ mu8, mu8 = sB mu5 a1 (x6.1, x7.2.1, x7.2.2.1, x7.2.2.2.1, x7.2.2.2.2.1, x7.2.2.2.2.2.1, x7.2.2.2.2.2.2.1, x7.2.2.2.2.2.2.2.1, x7.2.2.2.2.2.2.2.2.1, x7.2.2.2.2.2.2.2.2.2) → ∃ x9, mB mu8 v0 = some x9 ∧ ∃ x10, mB mu8 a1 = some x10 ∧ ∀ mu11, mu11 = sB mu8 a1 (x10.1, x9.2.1, x10.2.2.1, x10.2.2.2.1, x10.2.2.2.2.1, x10.2.2.2.2.2.1, x10.2.2.2.2.2.2.1, x10.2.2.2.2.2.2.2.1, x10.2.2.2.2.2.2.2.2.1, x10.2.2.2.2.2.2.2.2.2) → ∃ x12, mB mu11 v0 = some x12 ∧ ∃ x13, mB mu11 a1 = some x13 ∧ ∀ mu14, mu14 = sB mu11 a1 (x13.1, x13.2.1, x12.2.2.1, x13.2.2.2.1, x13.2.2.2.2.1, x13.2.2.2.2.2.1, x13.2.2.2.2.2.2.1, x13.2.2.2.2.2.2.2.1, x13.2.2.2.2.2.2.2.2.1, x13.2.2.2.2.2.2.2.2.2) → ∃ x15, mB mu14 v0 = some x15 ∧ ∃ x16, mB mu14 a1 = some x16 ∧ ∀ mu17, mu17 = sB mu14 a1 (x16.1, x16.2.1, x16.2.2.1, x15.2.2.2.1, x16.2.2.2.2.1, x16.2.2.2.2.2.1, x16.2.2.2.2.2.2.1, x16.2.2.2.2.2.2.2.1, x16.2.2.2.2.2.2.2.2.1, x16.2.2.2.2.2.2.2.2.2) → ∃ x18, mB mu17 v0 = some x18 ∧ ∃ a18, x18.2.2.2.2.1 = some a18 ∧ ∃ n19 f19, mI mu17 a18 = some (n19, f19) ∧ n19 ≤ 1000 ∧ ((0 + 1) + q4) + (1 + n19 / 16) ≤ cB ∧ ∀ a19, frM mu17 a19 → ∀ mu20, mu20 = sI mu17 a19 (n19, f19) → ∃ x21, mB mu20 a1 = some x21 ∧ ∀ mu22, mu22 = sB mu20 a1 (x21.1, x21.2.1, x21.2.2.1, x21.2.2.2.1, some a19, x21.2.2.2.2.2.1, x21.2.2.2.2.2.2.1, x21.2.2.2.2.2.2.2.1, x21.2.2.2.2.2.2.2.2.1, x21.2.2.2.2.2.2.2.2.2) → ∃ x23, mB mu22 v0 = some x23 ∧ ∃ a23, x23.2.2.2.2.2.1 = some a23 ∧ ∃ n24 f24, mQ mu22 a23 = some (2, n24, f24) ∧ ∃ n25, nI n24 = nI n25 ∧ n25 ≤ 1000 ∧ (((0 + 1) + q4) + (1 + n19 / 16)) + (1 + n25 / 16) ≤ cB ∧ ∀ a25, frM mu22 a25 → ∀ mu26, mu26 = sQ mu22 a25 (2, n25, fun _ => none) → ∃ x27, mB mu26 a1 = some x27 ∧ ∀ mu28, mu28 = sB mu26 a1 (x27.1, x27.2.1, x27.2.2.1, x27.2.2.2.1, x27.2.2.2.2.1, some a25, x27.2.2.2.2.2.2.1, x27.2.2.2.2.2.2.2.1, x27.2.2.2.2.2.2.2.2.1, x27.2.2.2.2.2.2.2.2.2) → ∃ m_, wpX7_copy_L68 cB Post  m_ mu28 ((((0 + 1) + q4) + (1 + n19 / 16)) + (1 + n25 / 16)) v0 a1 (0 : Int32))
set_option maxHeartbeats 4000000 in
set_option maxRecDepth 100000 in
theorem conX7_copy (l : Launch) (D : va_G) (cA : Nat → ClassId) (cB : Nat) (mu : Mu) (v0 : Nat) (Post : Nat → Mu → Prop)  (H : wpX7_copy cB mu v0 Post) {w0 ws0 : va_W} (hR : LR cA w0 ws0 mu) : ConN l D cA yX7_copy (wm yX7_copy cX7_copy 3 (some (.object "WidowWatchLaw$Book"))) { frames := 3, cells := cB, slots := 16 * cB, locals := 61 } ws0 [.ref v0] cB (16 * cB) (PR (fun r w1 => ∃ m1, LR cA w0 w1 m1 ∧ Post r m1)) := by
  refine ConN.of (by decide) (Nat.le_of_ble_eq_true rfl) ?_
  intro p e s m args below meth c C hF hr hini
  have B68 : ∀  (n : Nat) (ws : va_W) (mu : Mu) (u : Nat) (v0 : Nat) (v1 : Nat) (v2 : Int32), LR cA w0 ws mu → wpX7_copy_L68 cB Post  n mu u v0 v1 v2 → Kf p l e { frames := 3, cells := cB, slots := 16 * cB, locals := 61 } s m args below meth c D (va_A ws0 s.heap.size) 3 u (16 * u) (MQ below (QC D ws0 s.heap.size (PR (fun r w1 => ∃ m1, LR cA w0 w1 m1 ∧ Post r m1))) args s cB (16 * cB) (va_A ws0 s.heap.size)) ws 68 [(0, .ref v0), (1, .ref v1), (2, .int v2)] [] := by
    intro  n
    induction n with
    | zero =>
      intro ws mu u v0 v1 v2 hR H
      exact H.elim
    | succ nn68 ih68 =>
      intro ws mu u v0 v1 v2 hR H
      have H : ∃ x29, mB mu v0 = some x29 ∧ ∃ a29, x29.2.2.2.2.2.1 = some a29 ∧ ∃ n30 f30, mQ mu a29 = some (2, n30, f30) ∧ ((nI n30) ≤ v2 → u ≤ cB ∧ Post v1 mu) ∧ (¬ (nI n30) ≤ v2 → ∃ x31, mB mu v1 = some x31 ∧ ∃ a31, x31.2.2.2.2.2.1 = some a31 ∧ ∃ x32, mB mu v0 = some x32 ∧ ∃ a32, x32.2.2.2.2.2.1 = some a32 ∧ ∃ n33 f33 k33, mQ mu a32 = some (2, n33, f33) ∧ v2 = nI k33 ∧ k33 < n33 ∧ n33 ≤ 1000 ∧ ∃ a33, f33 k33 = some a33 ∧ ∃ x34, mP mu a33 = some x34 ∧ ∃ q36, u + q36 ≤ cB ∧ wpX8_copy q36 mu a33 (fun r35 mu37 => ∃ n38 f38 k38, mQ mu37 a31 = some (2, n38, f38) ∧ v2 = nI k38 ∧ k38 < n38 ∧ n38 ≤ 1000 ∧ ∃ x38, mP mu37 r35 = some x38 ∧ ∀ mu39, mu39 = sQ mu37 a31 (2, n38, va_up f38 k38 (some r35)) → (wpX7_copy_L68 cB Post  nn68) mu39 (u + q36) v0 v1 (v2 + (1 : Int32)))) := H
      refine k_iload_n C 2 (pc := 68) dX7_copy_68 rfl rfl ?_
      refine k_aload_n C 0 (pc := 69) dX7_copy_69 rfl rfl ?_
      obtain ⟨x29, hx29, H⟩ := H
      obtain ⟨a29, ha29, H⟩ := H
      refine l_getB C hR (pc := 70) hx29 5 (Nat.lt_of_lt_of_le (Nat.lt_succ_self _) (Nat.le_of_ble_eq_true rfl)) (ref := "WidowWatchLaw$Book") tW_2_72 rfl (v := .ref a29) (by show some (va_rf x29.2.2.2.2.2.1) = _; rw [ha29]; rfl) dX7_copy_70 ?_
      obtain ⟨n30, f30, hx_, H⟩ := H
      refine l_alenQ C hR (pc := 73) (Or.inl rfl) hx_ dX7_copy_73 ?_
      refine k_icmp_ge C (pc := 74) (tgt := 98) dX7_copy_74 (by decide) (fun c_74 => ?_) (fun c_74 => ?_)
      · have H := H.1 c_74
        refine k_aload_n C 1 (pc := 98) dX7_copy_98 rfl rfl ?_
        obtain ⟨hc_, H⟩ := H
        refine k_widen (k := cB) (n := 16 * cB) hc_ (Nat.mul_le_mul_left 16 hc_) ?_
        exact k_aret C (pc := 99) hr (Or.inl ⟨_, rfl⟩) dX7_copy_99 ⟨mu, hR, H⟩
      · have H := H.2 c_74
        refine k_aload_n C 1 (pc := 77) dX7_copy_77 rfl rfl ?_
        obtain ⟨x31, hx31, H⟩ := H
        obtain ⟨a31, ha31, H⟩ := H
        refine l_getB C hR (pc := 78) hx31 5 (Nat.lt_of_lt_of_le (Nat.lt_succ_self _) (Nat.le_of_ble_eq_true rfl)) (ref := "WidowWatchLaw$Book") tW_2_72 rfl (v := .ref a31) (by show some (va_rf x31.2.2.2.2.2.1) = _; rw [ha31]; rfl) dX7_copy_78 ?_
        refine k_iload_n C 2 (pc := 81) dX7_copy_81 rfl rfl ?_
        refine k_aload_n C 0 (pc := 82) dX7_copy_82 rfl rfl ?_
        obtain ⟨x32, hx32, H⟩ := H
        obtain ⟨a32, ha32, H⟩ := H
        refine l_getB C hR (pc := 83) hx32 5 (Nat.lt_of_lt_of_le (Nat.lt_succ_self _) (Nat.le_of_ble_eq_true rfl)) (ref := "WidowWatchLaw$Book") tW_2_72 rfl (v := .ref a32) (by show some (va_rf x32.2.2.2.2.2.1) = _; rw [ha32]; rfl) dX7_copy_83 ?_
        refine k_iload_n C 2 (pc := 86) dX7_copy_86 rfl rfl ?_
        obtain ⟨n33, f33, k33, hx_, hk_, hl_, hn_, H⟩ := H
        refine k_eq (pc := 87) (st' := [.int (nI k33), .ref a32, .int v2, .ref a31]) rfl rfl (by rw [hk_]) ?_
        obtain ⟨a33, ha33, H⟩ := H
        refine l_aald C hR (pc := 87) (Or.inl rfl) hx_ hl_ hn_ dX7_copy_87 ?_
        refine k_eq (pc := 88) (st' := [.ref a33, .int v2, .ref a31]) rfl rfl (by rw [ha33]; rfl) ?_
        obtain ⟨x34, hx34, H⟩ := H
        obtain ⟨i34, hi34⟩ := List.getElem?_of_mem (hR.P hx34)
        obtain ⟨q36, hc_, H⟩ := H
        refine k_callAr C (pc := 88) (l_runV C hF (As := []) (rest := [.int v2, .ref a31]) (ci := 8) (q0 := i34) (conX8_copy l D cA q36 mu a33 _  H hR) ⟨k_cwB C tW_2_115 tW_2_112 tW_1_22 okX8_copy rfl rfl ⟨Nat.le_of_ble_eq_true rfl, Nat.le_of_ble_eq_true rfl⟩, C.w tW_2_113, C.w tW_2_114⟩ hi34 rfl rfl rfl rfl (Nat.le_of_ble_eq_true rfl) dX7_copy_88 ⟨hc_, by show 16 * (u) + 16 * q36 ≤ 16 * cB; omega⟩) (fun r35 w1 hw_ => ?_)
        obtain ⟨mu37, hR, H⟩ := hw_
        refine k_sl ?_
        obtain ⟨n38, f38, k38, hx_, hk_, hl_, hn_, H⟩ := H
        refine k_eq (pc := 91) (st' := [.ref r35, .int (nI k38), .ref a31]) rfl rfl (by rw [hk_]) ?_
        obtain ⟨x38, hy_, H⟩ := H
        refine l_aastP C hR (pc := 91) hx_ hy_ hl_ hn_ dX7_copy_91 (fun w1 hR => ?_)
        obtain ⟨mu39, hm39⟩ : ∃ m_, m_ = sQ mu37 a31 (2, n38, va_up f38 k38 (some r35)) := ⟨_, rfl⟩
        rw [← hm39] at hR
        have H := H mu39 hm39
        refine k_iinc C (pc := 92) (k := 2) (v := v2 + (1 : Int32)) dX7_copy_92 rfl rfl (Nat.lt_of_lt_of_le (Nat.lt_succ_self _) (Nat.le_of_ble_eq_true rfl)) (lv' := [(2, .int (v2 + (1 : Int32))), (0, .ref v0), (1, .ref v1)]) rfl ?_
        refine k_goto C (pc := 95) (tgt := 68) dX7_copy_95 (by decide) ?_
        refine k_lv (pc := 68) [1, 2, 0] (lv' := [(0, .ref v0), (1, .ref v1), (2, .int (v2 + (1 : Int32)))]) rfl ?_
        exact ih68 _ mu39 (u + q36) v0 v1 (v2 + (1 : Int32)) hR H
  refine k_eq (ws' := ws0) (lv' := [(0, .ref v0)]) (st' := []) rfl rfl rfl ?_
  have H : 0 + 1 ≤ cB ∧ ∀ a1, frM mu a1 → ∀ mu2, mu2 = sB mu a1 (0, 0, 0, 0, none, none, none, none, none, 0) → ∃ q4, (0 + 1) + q4 ≤ cB ∧ wpX7_init q4 mu2 a1 (fun mu5 => ∃ x6, mB mu5 v0 = some x6 ∧ ∃ x7, mB mu5 a1 = some x7 ∧ ∀ mu8, mu8 = sB mu5 a1 (x6.1, x7.2.1, x7.2.2.1, x7.2.2.2.1, x7.2.2.2.2.1, x7.2.2.2.2.2.1, x7.2.2.2.2.2.2.1, x7.2.2.2.2.2.2.2.1, x7.2.2.2.2.2.2.2.2.1, x7.2.2.2.2.2.2.2.2.2) → ∃ x9, mB mu8 v0 = some x9 ∧ ∃ x10, mB mu8 a1 = some x10 ∧ ∀ mu11, mu11 = sB mu8 a1 (x10.1, x9.2.1, x10.2.2.1, x10.2.2.2.1, x10.2.2.2.2.1, x10.2.2.2.2.2.1, x10.2.2.2.2.2.2.1, x10.2.2.2.2.2.2.2.1, x10.2.2.2.2.2.2.2.2.1, x10.2.2.2.2.2.2.2.2.2) → ∃ x12, mB mu11 v0 = some x12 ∧ ∃ x13, mB mu11 a1 = some x13 ∧ ∀ mu14, mu14 = sB mu11 a1 (x13.1, x13.2.1, x12.2.2.1, x13.2.2.2.1, x13.2.2.2.2.1, x13.2.2.2.2.2.1, x13.2.2.2.2.2.2.1, x13.2.2.2.2.2.2.2.1, x13.2.2.2.2.2.2.2.2.1, x13.2.2.2.2.2.2.2.2.2) → ∃ x15, mB mu14 v0 = some x15 ∧ ∃ x16, mB mu14 a1 = some x16 ∧ ∀ mu17, mu17 = sB mu14 a1 (x16.1, x16.2.1, x16.2.2.1, x15.2.2.2.1, x16.2.2.2.2.1, x16.2.2.2.2.2.1, x16.2.2.2.2.2.2.1, x16.2.2.2.2.2.2.2.1, x16.2.2.2.2.2.2.2.2.1, x16.2.2.2.2.2.2.2.2.2) → ∃ x18, mB mu17 v0 = some x18 ∧ ∃ a18, x18.2.2.2.2.1 = some a18 ∧ ∃ n19 f19, mI mu17 a18 = some (n19, f19) ∧ n19 ≤ 1000 ∧ ((0 + 1) + q4) + (1 + n19 / 16) ≤ cB ∧ ∀ a19, frM mu17 a19 → ∀ mu20, mu20 = sI mu17 a19 (n19, f19) → ∃ x21, mB mu20 a1 = some x21 ∧ ∀ mu22, mu22 = sB mu20 a1 (x21.1, x21.2.1, x21.2.2.1, x21.2.2.2.1, some a19, x21.2.2.2.2.2.1, x21.2.2.2.2.2.2.1, x21.2.2.2.2.2.2.2.1, x21.2.2.2.2.2.2.2.2.1, x21.2.2.2.2.2.2.2.2.2) → ∃ x23, mB mu22 v0 = some x23 ∧ ∃ a23, x23.2.2.2.2.2.1 = some a23 ∧ ∃ n24 f24, mQ mu22 a23 = some (2, n24, f24) ∧ ∃ n25, nI n24 = nI n25 ∧ n25 ≤ 1000 ∧ (((0 + 1) + q4) + (1 + n19 / 16)) + (1 + n25 / 16) ≤ cB ∧ ∀ a25, frM mu22 a25 → ∀ mu26, mu26 = sQ mu22 a25 (2, n25, fun _ => none) → ∃ x27, mB mu26 a1 = some x27 ∧ ∀ mu28, mu28 = sB mu26 a1 (x27.1, x27.2.1, x27.2.2.1, x27.2.2.2.1, x27.2.2.2.2.1, some a25, x27.2.2.2.2.2.2.1, x27.2.2.2.2.2.2.2.1, x27.2.2.2.2.2.2.2.2.1, x27.2.2.2.2.2.2.2.2.2) → ∃ m_, wpX7_copy_L68 cB Post  m_ mu28 ((((0 + 1) + q4) + (1 + n19 / 16)) + (1 + n25 / 16)) v0 a1 (0 : Int32)) := H
  refine k_widen (k := 0) (n := 16 * 0) (Nat.le_refl _) (Nat.le_refl _) ?_
  obtain ⟨hc_, H⟩ := H
  refine l_newB C hR (u := 0) (pc := 0) tW_2_103 tW_2_55 tW_1_9 hc_ (Nat.mul_le_mul_left 16 hc_) dX7_copy_0 (fun a1 w1 hf_ hR => ?_)
  have H := H a1 hf_
  obtain ⟨mu2, hm2⟩ : ∃ m_, m_ = sB mu a1 (0, 0, 0, 0, none, none, none, none, none, 0) := ⟨_, rfl⟩
  rw [← hm2] at hR
  have H := H mu2 hm2
  refine k_dup C (pc := 3) dX7_copy_3 rfl ?_
  obtain ⟨q4, hc_, H⟩ := H
  refine k_callAv C (pc := 4) (k_runIC C hF (As := []) (rest := [.ref a1]) (conX7_init l D cA q4 mu2 a1 _  H hR) ⟨k_cwB C tW_2_58 tW_2_104 tW_1_9 okX7_init rfl rfl ⟨Nat.le_of_ble_eq_true rfl, Nat.le_of_ble_eq_true rfl⟩, rfl, C.w tW_2_57⟩ rfl rfl (Nat.le_of_ble_eq_true rfl) dX7_copy_4 ⟨hc_, by show 16 * (0 + 1) + 16 * q4 ≤ 16 * cB; omega⟩) (fun w1 hw_ => ?_)
  obtain ⟨mu5, hR, H⟩ := hw_
  refine k_sl ?_
  refine k_astore_n C (pc := 7) dX7_copy_7 rfl (Nat.lt_of_lt_of_le (Nat.lt_succ_self _) (Nat.le_of_ble_eq_true rfl)) (lv' := [(1, .ref a1), (0, .ref v0)]) rfl ?_
  refine k_aload_n C 0 (pc := 8) dX7_copy_8 rfl rfl ?_
  refine k_aload_n C 1 (pc := 9) dX7_copy_9 rfl rfl ?_
  obtain ⟨x6, hx6, H⟩ := H
  refine l_getB C hR (pc := 10) hx6 0 (Nat.lt_of_lt_of_le (Nat.lt_succ_self _) (Nat.le_of_ble_eq_true rfl)) (ref := "WidowWatchLaw$Book") tW_2_62 rfl (v := .int x6.1) rfl dX7_copy_10 ?_
  obtain ⟨x7, hx7, H⟩ := H
  refine l_putB C hR (pc := 13) hx7 0 (Nat.lt_of_lt_of_le (Nat.lt_succ_self _) (Nat.le_of_ble_eq_true rfl)) (ref := "WidowWatchLaw$Book") tW_2_62 rfl rfl  (ty := .int) rfl rfl rfl (x1 := ((x6.1, x7.2.1, x7.2.2.1, x7.2.2.2.1, x7.2.2.2.2.1, x7.2.2.2.2.2.1, x7.2.2.2.2.2.2.1, x7.2.2.2.2.2.2.2.1, x7.2.2.2.2.2.2.2.2.1, x7.2.2.2.2.2.2.2.2.2))) rfl dX7_copy_13 (fun w1 hR => ?_)
  obtain ⟨mu8, hm8⟩ : ∃ m_, m_ = sB mu5 a1 (x6.1, x7.2.1, x7.2.2.1, x7.2.2.2.1, x7.2.2.2.2.1, x7.2.2.2.2.2.1, x7.2.2.2.2.2.2.1, x7.2.2.2.2.2.2.2.1, x7.2.2.2.2.2.2.2.2.1, x7.2.2.2.2.2.2.2.2.2) := ⟨_, rfl⟩
  rw [← hm8] at hR
  have H := H mu8 hm8
  refine k_aload_n C 0 (pc := 16) dX7_copy_16 rfl rfl ?_
  refine k_aload_n C 1 (pc := 17) dX7_copy_17 rfl rfl ?_
  obtain ⟨x9, hx9, H⟩ := H
  refine l_getB C hR (pc := 18) hx9 1 (Nat.lt_of_lt_of_le (Nat.lt_succ_self _) (Nat.le_of_ble_eq_true rfl)) (ref := "WidowWatchLaw$Book") tW_2_64 rfl (v := .int x9.2.1) rfl dX7_copy_18 ?_
  obtain ⟨x10, hx10, H⟩ := H
  refine l_putB C hR (pc := 21) hx10 1 (Nat.lt_of_lt_of_le (Nat.lt_succ_self _) (Nat.le_of_ble_eq_true rfl)) (ref := "WidowWatchLaw$Book") tW_2_64 rfl rfl  (ty := .int) rfl rfl rfl (x1 := ((x10.1, x9.2.1, x10.2.2.1, x10.2.2.2.1, x10.2.2.2.2.1, x10.2.2.2.2.2.1, x10.2.2.2.2.2.2.1, x10.2.2.2.2.2.2.2.1, x10.2.2.2.2.2.2.2.2.1, x10.2.2.2.2.2.2.2.2.2))) rfl dX7_copy_21 (fun w1 hR => ?_)
  obtain ⟨mu11, hm11⟩ : ∃ m_, m_ = sB mu8 a1 (x10.1, x9.2.1, x10.2.2.1, x10.2.2.2.1, x10.2.2.2.2.1, x10.2.2.2.2.2.1, x10.2.2.2.2.2.2.1, x10.2.2.2.2.2.2.2.1, x10.2.2.2.2.2.2.2.2.1, x10.2.2.2.2.2.2.2.2.2) := ⟨_, rfl⟩
  rw [← hm11] at hR
  have H := H mu11 hm11
  refine k_aload_n C 0 (pc := 24) dX7_copy_24 rfl rfl ?_
  refine k_aload_n C 1 (pc := 25) dX7_copy_25 rfl rfl ?_
  obtain ⟨x12, hx12, H⟩ := H
  refine l_getB C hR (pc := 26) hx12 2 (Nat.lt_of_lt_of_le (Nat.lt_succ_self _) (Nat.le_of_ble_eq_true rfl)) (ref := "WidowWatchLaw$Book") tW_2_66 rfl (v := .int x12.2.2.1) rfl dX7_copy_26 ?_
  obtain ⟨x13, hx13, H⟩ := H
  refine l_putB C hR (pc := 29) hx13 2 (Nat.lt_of_lt_of_le (Nat.lt_succ_self _) (Nat.le_of_ble_eq_true rfl)) (ref := "WidowWatchLaw$Book") tW_2_66 rfl rfl  (ty := .int) rfl rfl rfl (x1 := ((x13.1, x13.2.1, x12.2.2.1, x13.2.2.2.1, x13.2.2.2.2.1, x13.2.2.2.2.2.1, x13.2.2.2.2.2.2.1, x13.2.2.2.2.2.2.2.1, x13.2.2.2.2.2.2.2.2.1, x13.2.2.2.2.2.2.2.2.2))) rfl dX7_copy_29 (fun w1 hR => ?_)
  obtain ⟨mu14, hm14⟩ : ∃ m_, m_ = sB mu11 a1 (x13.1, x13.2.1, x12.2.2.1, x13.2.2.2.1, x13.2.2.2.2.1, x13.2.2.2.2.2.1, x13.2.2.2.2.2.2.1, x13.2.2.2.2.2.2.2.1, x13.2.2.2.2.2.2.2.2.1, x13.2.2.2.2.2.2.2.2.2) := ⟨_, rfl⟩
  rw [← hm14] at hR
  have H := H mu14 hm14
  refine k_aload_n C 0 (pc := 32) dX7_copy_32 rfl rfl ?_
  refine k_aload_n C 1 (pc := 33) dX7_copy_33 rfl rfl ?_
  obtain ⟨x15, hx15, H⟩ := H
  refine l_getB C hR (pc := 34) hx15 3 (Nat.lt_of_lt_of_le (Nat.lt_succ_self _) (Nat.le_of_ble_eq_true rfl)) (ref := "WidowWatchLaw$Book") tW_2_68 rfl (v := .int x15.2.2.2.1) rfl dX7_copy_34 ?_
  obtain ⟨x16, hx16, H⟩ := H
  refine l_putB C hR (pc := 37) hx16 3 (Nat.lt_of_lt_of_le (Nat.lt_succ_self _) (Nat.le_of_ble_eq_true rfl)) (ref := "WidowWatchLaw$Book") tW_2_68 rfl rfl  (ty := .int) rfl rfl rfl (x1 := ((x16.1, x16.2.1, x16.2.2.1, x15.2.2.2.1, x16.2.2.2.2.1, x16.2.2.2.2.2.1, x16.2.2.2.2.2.2.1, x16.2.2.2.2.2.2.2.1, x16.2.2.2.2.2.2.2.2.1, x16.2.2.2.2.2.2.2.2.2))) rfl dX7_copy_37 (fun w1 hR => ?_)
  obtain ⟨mu17, hm17⟩ : ∃ m_, m_ = sB mu14 a1 (x16.1, x16.2.1, x16.2.2.1, x15.2.2.2.1, x16.2.2.2.2.1, x16.2.2.2.2.2.1, x16.2.2.2.2.2.2.1, x16.2.2.2.2.2.2.2.1, x16.2.2.2.2.2.2.2.2.1, x16.2.2.2.2.2.2.2.2.2) := ⟨_, rfl⟩
  rw [← hm17] at hR
  have H := H mu17 hm17
  refine k_aload_n C 0 (pc := 40) dX7_copy_40 rfl rfl ?_
  refine k_aload_n C 1 (pc := 41) dX7_copy_41 rfl rfl ?_
  obtain ⟨x18, hx18, H⟩ := H
  obtain ⟨a18, ha18, H⟩ := H
  refine l_getB C hR (pc := 42) hx18 4 (Nat.lt_of_lt_of_le (Nat.lt_succ_self _) (Nat.le_of_ble_eq_true rfl)) (ref := "WidowWatchLaw$Book") tW_2_70 rfl (v := .ref a18) (by show some (va_rf x18.2.2.2.2.1) = _; rw [ha18]; rfl) dX7_copy_42 ?_
  obtain ⟨n19, f19, hx_, hn_, hc_, H⟩ := H
  refine l_clone C hR hF (u := (0 + 1) + q4) (pc := 45) hx_ hn_ tW_2_105 (Nat.le_of_ble_eq_true rfl) (Nat.le_of_ble_eq_true rfl) (Nat.le_of_ble_eq_true rfl) hc_ (Nat.mul_le_mul_left 16 hc_) dX7_copy_45 (fun a19 w1 hf_ hR => ?_)
  have H := H a19 hf_
  obtain ⟨mu20, hm20⟩ : ∃ m_, m_ = sI mu17 a19 (n19, f19) := ⟨_, rfl⟩
  rw [← hm20] at hR
  have H := H mu20 hm20
  have hcx_ : mI mu20 a19 = some (n19, f19) := by rw [hm20]; exact up_s
  refine l_castI C hR (pc := 48) tW_2_111 hcx_ dX7_copy_48 ?_
  obtain ⟨x21, hx21, H⟩ := H
  refine l_putB C hR (pc := 51) hx21 4 (Nat.lt_of_lt_of_le (Nat.lt_succ_self _) (Nat.le_of_ble_eq_true rfl)) (ref := "WidowWatchLaw$Book") tW_2_70 rfl rfl  rfl rfl rfl (x1 := ((x21.1, x21.2.1, x21.2.2.1, x21.2.2.2.1, some a19, x21.2.2.2.2.2.1, x21.2.2.2.2.2.2.1, x21.2.2.2.2.2.2.2.1, x21.2.2.2.2.2.2.2.2.1, x21.2.2.2.2.2.2.2.2.2))) rfl dX7_copy_51 (fun w1 hR => ?_)
  obtain ⟨mu22, hm22⟩ : ∃ m_, m_ = sB mu20 a1 (x21.1, x21.2.1, x21.2.2.1, x21.2.2.2.1, some a19, x21.2.2.2.2.2.1, x21.2.2.2.2.2.2.1, x21.2.2.2.2.2.2.2.1, x21.2.2.2.2.2.2.2.2.1, x21.2.2.2.2.2.2.2.2.2) := ⟨_, rfl⟩
  rw [← hm22] at hR
  have H := H mu22 hm22
  refine k_aload_n C 0 (pc := 54) dX7_copy_54 rfl rfl ?_
  refine k_aload_n C 1 (pc := 55) dX7_copy_55 rfl rfl ?_
  obtain ⟨x23, hx23, H⟩ := H
  obtain ⟨a23, ha23, H⟩ := H
  refine l_getB C hR (pc := 56) hx23 5 (Nat.lt_of_lt_of_le (Nat.lt_succ_self _) (Nat.le_of_ble_eq_true rfl)) (ref := "WidowWatchLaw$Book") tW_2_72 rfl (v := .ref a23) (by show some (va_rf x23.2.2.2.2.2.1) = _; rw [ha23]; rfl) dX7_copy_56 ?_
  obtain ⟨n24, f24, hx_, H⟩ := H
  refine l_alenQ C hR (pc := 59) (Or.inl rfl) hx_ dX7_copy_59 ?_
  obtain ⟨n25, hk_, hn_, hc_, H⟩ := H
  refine k_eq (pc := 60) (st' := [.int (nI n25), .ref a1]) rfl rfl (by rw [hk_]) ?_
  refine l_newQ2 C hR hF (u := ((0 + 1) + q4) + (1 + n19 / 16)) (pc := 60) tW_2_60 hn_ hc_ (Nat.mul_le_mul_left 16 hc_) dX7_copy_60 (fun a25 w1 hf_ hR => ?_)
  have H := H a25 hf_
  obtain ⟨mu26, hm26⟩ : ∃ m_, m_ = sQ mu22 a25 (2, n25, fun _ => none) := ⟨_, rfl⟩
  rw [← hm26] at hR
  have H := H mu26 hm26
  obtain ⟨x27, hx27, H⟩ := H
  refine l_putB C hR (pc := 63) hx27 5 (Nat.lt_of_lt_of_le (Nat.lt_succ_self _) (Nat.le_of_ble_eq_true rfl)) (ref := "WidowWatchLaw$Book") tW_2_72 rfl rfl  rfl rfl rfl (x1 := ((x27.1, x27.2.1, x27.2.2.1, x27.2.2.2.1, x27.2.2.2.2.1, some a25, x27.2.2.2.2.2.2.1, x27.2.2.2.2.2.2.2.1, x27.2.2.2.2.2.2.2.2.1, x27.2.2.2.2.2.2.2.2.2))) rfl dX7_copy_63 (fun w1 hR => ?_)
  obtain ⟨mu28, hm28⟩ : ∃ m_, m_ = sB mu26 a1 (x27.1, x27.2.1, x27.2.2.1, x27.2.2.2.1, x27.2.2.2.2.1, some a25, x27.2.2.2.2.2.2.1, x27.2.2.2.2.2.2.2.1, x27.2.2.2.2.2.2.2.2.1, x27.2.2.2.2.2.2.2.2.2) := ⟨_, rfl⟩
  rw [← hm28] at hR
  have H := H mu28 hm28
  refine k_iconst C (pc := 66) (v := (0 : Int32)) dX7_copy_66 rfl ?_
  refine k_istore_n C (pc := 67) dX7_copy_67 rfl (Nat.lt_of_lt_of_le (Nat.lt_succ_self _) (Nat.le_of_ble_eq_true rfl)) (lv' := [(2, .int (0 : Int32)), (1, .ref a1), (0, .ref v0)]) rfl ?_
  obtain ⟨n_, H⟩ := H
  refine k_lv (pc := 68) [2, 1, 0] (lv' := [(0, .ref v0), (1, .ref a1), (2, .int (0 : Int32))]) rfl ?_
  exact B68  n_ _ mu28 ((((0 + 1) + q4) + (1 + n19 / 16)) + (1 + n25 / 16)) v0 a1 (0 : Int32) hR H
/-! WidowWatchLaw$Book.adds(ILWidowWatchLaw$Para;)V -/
theorem dX7_adds_0 : decode cX7_adds 0 = .ok (.aload_n 0, 1) := by decide +kernel
theorem dX7_adds_1 : decode cX7_adds 1 = .ok (.getfield 28, 3) := by decide +kernel
theorem dX7_adds_4 : decode cX7_adds 4 = .ok (.arraylength, 1) := by decide +kernel
theorem dX7_adds_5 : decode cX7_adds 5 = .ok (.iconst 1, 1) := by decide +kernel
theorem dX7_adds_6 : decode cX7_adds 6 = .ok (.iadd, 1) := by decide +kernel
theorem dX7_adds_7 : decode cX7_adds 7 = .ok (.anewarray 26, 3) := by decide +kernel
theorem dX7_adds_10 : decode cX7_adds 10 = .ok (.astore_n 3, 1) := by decide +kernel
theorem dX7_adds_11 : decode cX7_adds 11 = .ok (.iconst 0, 1) := by decide +kernel
theorem dX7_adds_12 : decode cX7_adds 12 = .ok (.istore 4, 2) := by decide +kernel
theorem dX7_adds_14 : decode cX7_adds 14 = .ok (.iload 4, 2) := by decide +kernel
theorem dX7_adds_16 : decode cX7_adds 16 = .ok (.aload_n 3, 1) := by decide +kernel
theorem dX7_adds_17 : decode cX7_adds 17 = .ok (.arraylength, 1) := by decide +kernel
theorem dX7_adds_18 : decode cX7_adds 18 = .ok (.if_icmp .ge 48, 3) := by decide +kernel
theorem dX7_adds_21 : decode cX7_adds 21 = .ok (.aload_n 3, 1) := by decide +kernel
theorem dX7_adds_22 : decode cX7_adds 22 = .ok (.iload 4, 2) := by decide +kernel
theorem dX7_adds_24 : decode cX7_adds 24 = .ok (.iload 4, 2) := by decide +kernel
theorem dX7_adds_26 : decode cX7_adds 26 = .ok (.iload_n 1, 1) := by decide +kernel
theorem dX7_adds_27 : decode cX7_adds 27 = .ok (.if_icmp .ge 13, 3) := by decide +kernel
theorem dX7_adds_30 : decode cX7_adds 30 = .ok (.aload_n 0, 1) := by decide +kernel
theorem dX7_adds_31 : decode cX7_adds 31 = .ok (.getfield 28, 3) := by decide +kernel
theorem dX7_adds_34 : decode cX7_adds 34 = .ok (.iload 4, 2) := by decide +kernel
theorem dX7_adds_36 : decode cX7_adds 36 = .ok (.aaload, 1) := by decide +kernel
theorem dX7_adds_37 : decode cX7_adds 37 = .ok (.goto 22, 3) := by decide +kernel
theorem dX7_adds_40 : decode cX7_adds 40 = .ok (.iload 4, 2) := by decide +kernel
theorem dX7_adds_42 : decode cX7_adds 42 = .ok (.iload_n 1, 1) := by decide +kernel
theorem dX7_adds_43 : decode cX7_adds 43 = .ok (.if_icmp .ne 7, 3) := by decide +kernel
theorem dX7_adds_46 : decode cX7_adds 46 = .ok (.aload_n 2, 1) := by decide +kernel
theorem dX7_adds_47 : decode cX7_adds 47 = .ok (.goto 12, 3) := by decide +kernel
theorem dX7_adds_50 : decode cX7_adds 50 = .ok (.aload_n 0, 1) := by decide +kernel
theorem dX7_adds_51 : decode cX7_adds 51 = .ok (.getfield 28, 3) := by decide +kernel
theorem dX7_adds_54 : decode cX7_adds 54 = .ok (.iload 4, 2) := by decide +kernel
theorem dX7_adds_56 : decode cX7_adds 56 = .ok (.iconst 1, 1) := by decide +kernel
theorem dX7_adds_57 : decode cX7_adds 57 = .ok (.isub, 1) := by decide +kernel
theorem dX7_adds_58 : decode cX7_adds 58 = .ok (.aaload, 1) := by decide +kernel
theorem dX7_adds_59 : decode cX7_adds 59 = .ok (.aastore, 1) := by decide +kernel
theorem dX7_adds_60 : decode cX7_adds 60 = .ok (.iinc 4 1, 3) := by decide +kernel
theorem dX7_adds_63 : decode cX7_adds 63 = .ok (.goto (-49), 3) := by decide +kernel
theorem dX7_adds_66 : decode cX7_adds 66 = .ok (.aload_n 0, 1) := by decide +kernel
theorem dX7_adds_67 : decode cX7_adds 67 = .ok (.aload_n 3, 1) := by decide +kernel
theorem dX7_adds_68 : decode cX7_adds 68 = .ok (.putfield 28, 3) := by decide +kernel
theorem dX7_adds_71 : decode cX7_adds 71 = .ok (.return_, 1) := by decide +kernel
theorem okX7_adds : okY yX7_adds 2 := ⟨by decide +kernel, by decide +kernel, by decide +kernel⟩
def wpX7_adds_b59 (cB : Nat) (Post : Mu → Prop) (K14 : Mu → Nat → Nat → Int32 → Nat → Nat → Int32 → Prop) (mu : Mu) (u : Nat) (v0 : Nat) (v1 : Int32) (v2 : Nat) (v3 : Nat) (v4 : Int32) (s0 : Nat) (s1 : Int32) (s2 : Nat) : Prop := ∃ n10 f10 k10, mQ mu s0 = some (2, n10, f10) ∧ s1 = nI k10 ∧ k10 < n10 ∧ n10 ≤ 1000 ∧ ∃ x10, mP mu s2 = some x10 ∧ ∀ mu11, mu11 = sQ mu s0 (2, n10, va_up f10 k10 (some s2)) → K14 mu11 u v0 v1 v2 v3 (v4 + (1 : Int32))
def wpX7_adds_L14 (cB : Nat) (Post : Mu → Prop)  : Nat → Mu → Nat → Nat → Int32 → Nat → Nat → Int32 → Prop
  | 0 => fun _ _ _ _ _ _ _ => False
  | nn14 + 1 => fun mu u v0 v1 v2 v3 v4 => ∃ n5 f5, mQ mu v3 = some (2, n5, f5) ∧ ((nI n5) ≤ v4 → ∃ x6, mB mu v0 = some x6 ∧ ∀ mu7, mu7 = sB mu v0 (x6.1, x6.2.1, x6.2.2.1, x6.2.2.2.1, x6.2.2.2.2.1, some v3, x6.2.2.2.2.2.2.1, x6.2.2.2.2.2.2.2.1, x6.2.2.2.2.2.2.2.2.1, x6.2.2.2.2.2.2.2.2.2) → u ≤ cB ∧ Post mu7) ∧ (¬ (nI n5) ≤ v4 → (v1 ≤ v4 → (¬ v4 = v1 → ∃ x8, mB mu v0 = some x8 ∧ ∃ a8, x8.2.2.2.2.2.1 = some a8 ∧ ∃ n9 f9 k9, mQ mu a8 = some (2, n9, f9) ∧ v4 - (1 : Int32) = nI k9 ∧ k9 < n9 ∧ n9 ≤ 1000 ∧ ∃ a9, f9 k9 = some a9 ∧ wpX7_adds_b59 cB Post (wpX7_adds_L14 cB Post  nn14) mu u v0 v1 v2 v3 v4 v3 v4 a9) ∧ (v4 = v1 → wpX7_adds_b59 cB Post (wpX7_adds_L14 cB Post  nn14) mu u v0 v1 v2 v3 v4 v3 v4 v2)) ∧ (¬ v1 ≤ v4 → ∃ x12, mB mu v0 = some x12 ∧ ∃ a12, x12.2.2.2.2.2.1 = some a12 ∧ ∃ n13 f13 k13, mQ mu a12 = some (2, n13, f13) ∧ v4 = nI k13 ∧ k13 < n13 ∧ n13 ≤ 1000 ∧ ∃ a13, f13 k13 = some a13 ∧ wpX7_adds_b59 cB Post (wpX7_adds_L14 cB Post  nn14) mu u v0 v1 v2 v3 v4 v3 v4 a13))
def wpX7_adds (cB : Nat) (mu : Mu) (v0 : Nat) (v1 : Int32) (v2 : Nat) (Post : Mu → Prop) : Prop := ∃ x1, mB mu v0 = some x1 ∧ ∃ a1, x1.2.2.2.2.2.1 = some a1 ∧ ∃ n2 f2, mQ mu a1 = some (2, n2, f2) ∧ ∃ n3, (nI n2) + (1 : Int32) = nI n3 ∧ n3 ≤ 1000 ∧ 0 + (1 + n3 / 16) ≤ cB ∧ ∀ a3, frM mu a3 → ∀ mu4, mu4 = sQ mu a3 (2, n3, fun _ => none) → ∃ m_, wpX7_adds_L14 cB Post  m_ mu4 (0 + (1 + n3 / 16)) v0 v1 v2 a3 (0 : Int32)
set_option maxHeartbeats 4000000 in
set_option maxRecDepth 100000 in
theorem conX7_adds (l : Launch) (D : va_G) (cA : Nat → ClassId) (cB : Nat) (mu : Mu) (v0 : Nat) (v1 : Int32) (v2 : Nat) (Post : Mu → Prop)  (H : wpX7_adds cB mu v0 v1 v2 Post) {w0 ws0 : va_W} (hR : LR cA w0 ws0 mu) : ConN l D cA yX7_adds (wm yX7_adds cX7_adds 5 none) { frames := 0, cells := cB, slots := 16 * cB, locals := 0 } ws0 [.ref v0, .int v1, .ref v2] cB (16 * cB) (PV (fun w1 => ∃ m1, LR cA w0 w1 m1 ∧ Post m1)) := by
  refine ConN.of (by decide) (Nat.le_of_ble_eq_true rfl) ?_
  intro p e s m args below meth c C hF hr hini
  have B59 : ∀ (K14 : Mu → Nat → Nat → Int32 → Nat → Nat → Int32 → Prop) (hK14 : ∀ (ws : va_W) (mu : Mu) (u : Nat) (v0 : Nat) (v1 : Int32) (v2 : Nat) (v3 : Nat) (v4 : Int32), LR cA w0 ws mu → K14 mu u v0 v1 v2 v3 v4 → Kf p l e { frames := 0, cells := cB, slots := 16 * cB, locals := 0 } s m args below meth c D (va_A ws0 s.heap.size) 5 u (16 * u) (MQ below (QC D ws0 s.heap.size (PV (fun w1 => ∃ m1, LR cA w0 w1 m1 ∧ Post m1))) args s cB (16 * cB) (va_A ws0 s.heap.size)) ws 14 [(0, .ref v0), (1, .int v1), (2, .ref v2), (3, .ref v3), (4, .int v4)] []) (ws : va_W) (mu : Mu) (u : Nat) (v0 : Nat) (v1 : Int32) (v2 : Nat) (v3 : Nat) (v4 : Int32) (s0 : Nat) (s1 : Int32) (s2 : Nat), LR cA w0 ws mu → wpX7_adds_b59 cB Post K14 mu u v0 v1 v2 v3 v4 s0 s1 s2 → Kf p l e { frames := 0, cells := cB, slots := 16 * cB, locals := 0 } s m args below meth c D (va_A ws0 s.heap.size) 5 u (16 * u) (MQ below (QC D ws0 s.heap.size (PV (fun w1 => ∃ m1, LR cA w0 w1 m1 ∧ Post m1))) args s cB (16 * cB) (va_A ws0 s.heap.size)) ws 59 [(0, .ref v0), (1, .int v1), (2, .ref v2), (3, .ref v3), (4, .int v4)] [.ref s2, .int s1, .ref s0] := by
    intro K14 hK14 ws mu u v0 v1 v2 v3 v4 s0 s1 s2 hR H
    have H : ∃ n10 f10 k10, mQ mu s0 = some (2, n10, f10) ∧ s1 = nI k10 ∧ k10 < n10 ∧ n10 ≤ 1000 ∧ ∃ x10, mP mu s2 = some x10 ∧ ∀ mu11, mu11 = sQ mu s0 (2, n10, va_up f10 k10 (some s2)) → K14 mu11 u v0 v1 v2 v3 (v4 + (1 : Int32)) := H
    obtain ⟨n10, f10, k10, hx_, hk_, hl_, hn_, H⟩ := H
    refine k_eq (pc := 59) (st' := [.ref s2, .int (nI k10), .ref s0]) rfl rfl (by rw [hk_]) ?_
    obtain ⟨x10, hy_, H⟩ := H
    refine l_aastP C hR (pc := 59) hx_ hy_ hl_ hn_ dX7_adds_59 (fun w1 hR => ?_)
    obtain ⟨mu11, hm11⟩ : ∃ m_, m_ = sQ mu s0 (2, n10, va_up f10 k10 (some s2)) := ⟨_, rfl⟩
    rw [← hm11] at hR
    have H := H mu11 hm11
    refine k_iinc C (pc := 60) (k := 4) (v := v4 + (1 : Int32)) dX7_adds_60 rfl rfl (Nat.lt_of_lt_of_le (Nat.lt_succ_self _) (Nat.le_of_ble_eq_true rfl)) (lv' := [(4, .int (v4 + (1 : Int32))), (0, .ref v0), (1, .int v1), (2, .ref v2), (3, .ref v3)]) rfl ?_
    refine k_goto C (pc := 63) (tgt := 14) dX7_adds_63 (by decide) ?_
    refine k_lv (pc := 14) [1, 2, 3, 4, 0] (lv' := [(0, .ref v0), (1, .int v1), (2, .ref v2), (3, .ref v3), (4, .int (v4 + (1 : Int32)))]) rfl ?_
    exact hK14 _ mu11 u v0 v1 v2 v3 (v4 + (1 : Int32)) hR H
  have B14 : ∀  (n : Nat) (ws : va_W) (mu : Mu) (u : Nat) (v0 : Nat) (v1 : Int32) (v2 : Nat) (v3 : Nat) (v4 : Int32), LR cA w0 ws mu → wpX7_adds_L14 cB Post  n mu u v0 v1 v2 v3 v4 → Kf p l e { frames := 0, cells := cB, slots := 16 * cB, locals := 0 } s m args below meth c D (va_A ws0 s.heap.size) 5 u (16 * u) (MQ below (QC D ws0 s.heap.size (PV (fun w1 => ∃ m1, LR cA w0 w1 m1 ∧ Post m1))) args s cB (16 * cB) (va_A ws0 s.heap.size)) ws 14 [(0, .ref v0), (1, .int v1), (2, .ref v2), (3, .ref v3), (4, .int v4)] [] := by
    intro  n
    induction n with
    | zero =>
      intro ws mu u v0 v1 v2 v3 v4 hR H
      exact H.elim
    | succ nn14 ih14 =>
      intro ws mu u v0 v1 v2 v3 v4 hR H
      have H : ∃ n5 f5, mQ mu v3 = some (2, n5, f5) ∧ ((nI n5) ≤ v4 → ∃ x6, mB mu v0 = some x6 ∧ ∀ mu7, mu7 = sB mu v0 (x6.1, x6.2.1, x6.2.2.1, x6.2.2.2.1, x6.2.2.2.2.1, some v3, x6.2.2.2.2.2.2.1, x6.2.2.2.2.2.2.2.1, x6.2.2.2.2.2.2.2.2.1, x6.2.2.2.2.2.2.2.2.2) → u ≤ cB ∧ Post mu7) ∧ (¬ (nI n5) ≤ v4 → (v1 ≤ v4 → (¬ v4 = v1 → ∃ x8, mB mu v0 = some x8 ∧ ∃ a8, x8.2.2.2.2.2.1 = some a8 ∧ ∃ n9 f9 k9, mQ mu a8 = some (2, n9, f9) ∧ v4 - (1 : Int32) = nI k9 ∧ k9 < n9 ∧ n9 ≤ 1000 ∧ ∃ a9, f9 k9 = some a9 ∧ wpX7_adds_b59 cB Post (wpX7_adds_L14 cB Post  nn14) mu u v0 v1 v2 v3 v4 v3 v4 a9) ∧ (v4 = v1 → wpX7_adds_b59 cB Post (wpX7_adds_L14 cB Post  nn14) mu u v0 v1 v2 v3 v4 v3 v4 v2)) ∧ (¬ v1 ≤ v4 → ∃ x12, mB mu v0 = some x12 ∧ ∃ a12, x12.2.2.2.2.2.1 = some a12 ∧ ∃ n13 f13 k13, mQ mu a12 = some (2, n13, f13) ∧ v4 = nI k13 ∧ k13 < n13 ∧ n13 ≤ 1000 ∧ ∃ a13, f13 k13 = some a13 ∧ wpX7_adds_b59 cB Post (wpX7_adds_L14 cB Post  nn14) mu u v0 v1 v2 v3 v4 v3 v4 a13)) := H
      refine k_iload C 4 (pc := 14) dX7_adds_14 rfl ?_
      refine k_aload_n C 3 (pc := 16) dX7_adds_16 rfl rfl ?_
      obtain ⟨n5, f5, hx_, H⟩ := H
      refine l_alenQ C hR (pc := 17) (Or.inl rfl) hx_ dX7_adds_17 ?_
      refine k_icmp_ge C (pc := 18) (tgt := 66) dX7_adds_18 (by decide) (fun c_18 => ?_) (fun c_18 => ?_)
      · have H := H.1 c_18
        refine k_aload_n C 0 (pc := 66) dX7_adds_66 rfl rfl ?_
        refine k_aload_n C 3 (pc := 67) dX7_adds_67 rfl rfl ?_
        obtain ⟨x6, hx6, H⟩ := H
        refine l_putB C hR (pc := 68) hx6 5 (Nat.lt_of_lt_of_le (Nat.lt_succ_self _) (Nat.le_of_ble_eq_true rfl)) (ref := "WidowWatchLaw$Book") tW_2_72 rfl rfl  rfl rfl rfl (x1 := ((x6.1, x6.2.1, x6.2.2.1, x6.2.2.2.1, x6.2.2.2.2.1, some v3, x6.2.2.2.2.2.2.1, x6.2.2.2.2.2.2.2.1, x6.2.2.2.2.2.2.2.2.1, x6.2.2.2.2.2.2.2.2.2))) rfl dX7_adds_68 (fun w1 hR => ?_)
        obtain ⟨mu7, hm7⟩ : ∃ m_, m_ = sB mu v0 (x6.1, x6.2.1, x6.2.2.1, x6.2.2.2.1, x6.2.2.2.2.1, some v3, x6.2.2.2.2.2.2.1, x6.2.2.2.2.2.2.2.1, x6.2.2.2.2.2.2.2.2.1, x6.2.2.2.2.2.2.2.2.2) := ⟨_, rfl⟩
        rw [← hm7] at hR
        have H := H mu7 hm7
        obtain ⟨hc_, H⟩ := H
        refine k_widen (k := cB) (n := 16 * cB) hc_ (Nat.mul_le_mul_left 16 hc_) ?_
        exact k_vret C (pc := 71) hr dX7_adds_71 ⟨mu7, hR, H⟩
      · have H := H.2 c_18
        refine k_aload_n C 3 (pc := 21) dX7_adds_21 rfl rfl ?_
        refine k_iload C 4 (pc := 22) dX7_adds_22 rfl ?_
        refine k_iload C 4 (pc := 24) dX7_adds_24 rfl ?_
        refine k_iload_n C 1 (pc := 26) dX7_adds_26 rfl rfl ?_
        refine k_icmp_ge C (pc := 27) (tgt := 40) dX7_adds_27 (by decide) (fun c_27 => ?_) (fun c_27 => ?_)
        · have H := H.1 c_27
          refine k_iload C 4 (pc := 40) dX7_adds_40 rfl ?_
          refine k_iload_n C 1 (pc := 42) dX7_adds_42 rfl rfl ?_
          refine k_icmp_ne C (pc := 43) (tgt := 50) dX7_adds_43 (by decide) (fun c_43 => ?_) (fun c_43 => ?_)
          · have H := H.1 c_43
            refine k_aload_n C 0 (pc := 50) dX7_adds_50 rfl rfl ?_
            obtain ⟨x8, hx8, H⟩ := H
            obtain ⟨a8, ha8, H⟩ := H
            refine l_getB C hR (pc := 51) hx8 5 (Nat.lt_of_lt_of_le (Nat.lt_succ_self _) (Nat.le_of_ble_eq_true rfl)) (ref := "WidowWatchLaw$Book") tW_2_72 rfl (v := .ref a8) (by show some (va_rf x8.2.2.2.2.2.1) = _; rw [ha8]; rfl) dX7_adds_51 ?_
            refine k_iload C 4 (pc := 54) dX7_adds_54 rfl ?_
            refine k_iconst C (pc := 56) (v := (1 : Int32)) dX7_adds_56 rfl ?_
            refine k_isub C (pc := 57) dX7_adds_57 ?_
            obtain ⟨n9, f9, k9, hx_, hk_, hl_, hn_, H⟩ := H
            refine k_eq (pc := 58) (st' := [.int (nI k9), .ref a8, .int v4, .ref v3]) rfl rfl (by rw [hk_]) ?_
            obtain ⟨a9, ha9, H⟩ := H
            refine l_aald C hR (pc := 58) (Or.inl rfl) hx_ hl_ hn_ dX7_adds_58 ?_
            refine k_eq (pc := 59) (st' := [.ref a9, .int v4, .ref v3]) rfl rfl (by rw [ha9]; rfl) ?_
            refine k_lv (pc := 59) [0, 1, 2, 3, 4] (lv' := [(0, .ref v0), (1, .int v1), (2, .ref v2), (3, .ref v3), (4, .int v4)]) rfl ?_
            exact B59 (wpX7_adds_L14 cB Post  nn14) ih14 _ mu u v0 v1 v2 v3 v4 v3 v4 a9 hR H
          · have H := H.2 c_43
            refine k_aload_n C 2 (pc := 46) dX7_adds_46 rfl rfl ?_
            refine k_goto C (pc := 47) (tgt := 59) dX7_adds_47 (by decide) ?_
            refine k_lv (pc := 59) [0, 1, 2, 3, 4] (lv' := [(0, .ref v0), (1, .int v1), (2, .ref v2), (3, .ref v3), (4, .int v4)]) rfl ?_
            exact B59 (wpX7_adds_L14 cB Post  nn14) ih14 _ mu u v0 v1 v2 v3 v4 v3 v4 v2 hR H
        · have H := H.2 c_27
          refine k_aload_n C 0 (pc := 30) dX7_adds_30 rfl rfl ?_
          obtain ⟨x12, hx12, H⟩ := H
          obtain ⟨a12, ha12, H⟩ := H
          refine l_getB C hR (pc := 31) hx12 5 (Nat.lt_of_lt_of_le (Nat.lt_succ_self _) (Nat.le_of_ble_eq_true rfl)) (ref := "WidowWatchLaw$Book") tW_2_72 rfl (v := .ref a12) (by show some (va_rf x12.2.2.2.2.2.1) = _; rw [ha12]; rfl) dX7_adds_31 ?_
          refine k_iload C 4 (pc := 34) dX7_adds_34 rfl ?_
          obtain ⟨n13, f13, k13, hx_, hk_, hl_, hn_, H⟩ := H
          refine k_eq (pc := 36) (st' := [.int (nI k13), .ref a12, .int v4, .ref v3]) rfl rfl (by rw [hk_]) ?_
          obtain ⟨a13, ha13, H⟩ := H
          refine l_aald C hR (pc := 36) (Or.inl rfl) hx_ hl_ hn_ dX7_adds_36 ?_
          refine k_eq (pc := 37) (st' := [.ref a13, .int v4, .ref v3]) rfl rfl (by rw [ha13]; rfl) ?_
          refine k_goto C (pc := 37) (tgt := 59) dX7_adds_37 (by decide) ?_
          refine k_lv (pc := 59) [0, 1, 2, 3, 4] (lv' := [(0, .ref v0), (1, .int v1), (2, .ref v2), (3, .ref v3), (4, .int v4)]) rfl ?_
          exact B59 (wpX7_adds_L14 cB Post  nn14) ih14 _ mu u v0 v1 v2 v3 v4 v3 v4 a13 hR H
  refine k_eq (ws' := ws0) (lv' := [(0, .ref v0), (1, .int v1), (2, .ref v2)]) (st' := []) rfl rfl rfl ?_
  have H : ∃ x1, mB mu v0 = some x1 ∧ ∃ a1, x1.2.2.2.2.2.1 = some a1 ∧ ∃ n2 f2, mQ mu a1 = some (2, n2, f2) ∧ ∃ n3, (nI n2) + (1 : Int32) = nI n3 ∧ n3 ≤ 1000 ∧ 0 + (1 + n3 / 16) ≤ cB ∧ ∀ a3, frM mu a3 → ∀ mu4, mu4 = sQ mu a3 (2, n3, fun _ => none) → ∃ m_, wpX7_adds_L14 cB Post  m_ mu4 (0 + (1 + n3 / 16)) v0 v1 v2 a3 (0 : Int32) := H
  refine k_widen (k := 0) (n := 16 * 0) (Nat.le_refl _) (Nat.le_refl _) ?_
  refine k_aload_n C 0 (pc := 0) dX7_adds_0 rfl rfl ?_
  obtain ⟨x1, hx1, H⟩ := H
  obtain ⟨a1, ha1, H⟩ := H
  refine l_getB C hR (pc := 1) hx1 5 (Nat.lt_of_lt_of_le (Nat.lt_succ_self _) (Nat.le_of_ble_eq_true rfl)) (ref := "WidowWatchLaw$Book") tW_2_72 rfl (v := .ref a1) (by show some (va_rf x1.2.2.2.2.2.1) = _; rw [ha1]; rfl) dX7_adds_1 ?_
  obtain ⟨n2, f2, hx_, H⟩ := H
  refine l_alenQ C hR (pc := 4) (Or.inl rfl) hx_ dX7_adds_4 ?_
  refine k_iconst C (pc := 5) (v := (1 : Int32)) dX7_adds_5 rfl ?_
  refine k_iadd C (pc := 6) dX7_adds_6 ?_
  obtain ⟨n3, hk_, hn_, hc_, H⟩ := H
  refine k_eq (pc := 7) (st' := [.int (nI n3)]) rfl rfl (by rw [hk_]) ?_
  refine l_newQ2 C hR hF (u := 0) (pc := 7) tW_2_60 hn_ hc_ (Nat.mul_le_mul_left 16 hc_) dX7_adds_7 (fun a3 w1 hf_ hR => ?_)
  have H := H a3 hf_
  obtain ⟨mu4, hm4⟩ : ∃ m_, m_ = sQ mu a3 (2, n3, fun _ => none) := ⟨_, rfl⟩
  rw [← hm4] at hR
  have H := H mu4 hm4
  refine k_astore_n C (pc := 10) dX7_adds_10 rfl (Nat.lt_of_lt_of_le (Nat.lt_succ_self _) (Nat.le_of_ble_eq_true rfl)) (lv' := [(3, .ref a3), (0, .ref v0), (1, .int v1), (2, .ref v2)]) rfl ?_
  refine k_iconst C (pc := 11) (v := (0 : Int32)) dX7_adds_11 rfl ?_
  refine k_istore C (pc := 12) dX7_adds_12 (Nat.lt_of_lt_of_le (Nat.lt_succ_self _) (Nat.le_of_ble_eq_true rfl)) (lv' := [(4, .int (0 : Int32)), (3, .ref a3), (0, .ref v0), (1, .int v1), (2, .ref v2)]) rfl ?_
  obtain ⟨n_, H⟩ := H
  refine k_lv (pc := 14) [2, 3, 4, 1, 0] (lv' := [(0, .ref v0), (1, .int v1), (2, .ref v2), (3, .ref a3), (4, .int (0 : Int32))]) rfl ?_
  exact B14  n_ _ mu4 (0 + (1 + n3 / 16)) v0 v1 v2 a3 (0 : Int32) hR H
/-! WidowWatchLaw$Book.drops(I)V -/
theorem dX7_drops_0 : decode cX7_drops 0 = .ok (.aload_n 0, 1) := by decide +kernel
theorem dX7_drops_1 : decode cX7_drops 1 = .ok (.getfield 28, 3) := by decide +kernel
theorem dX7_drops_4 : decode cX7_drops 4 = .ok (.arraylength, 1) := by decide +kernel
theorem dX7_drops_5 : decode cX7_drops 5 = .ok (.iconst 1, 1) := by decide +kernel
theorem dX7_drops_6 : decode cX7_drops 6 = .ok (.isub, 1) := by decide +kernel
theorem dX7_drops_7 : decode cX7_drops 7 = .ok (.anewarray 26, 3) := by decide +kernel
theorem dX7_drops_10 : decode cX7_drops 10 = .ok (.astore_n 2, 1) := by decide +kernel
theorem dX7_drops_11 : decode cX7_drops 11 = .ok (.iconst 0, 1) := by decide +kernel
theorem dX7_drops_12 : decode cX7_drops 12 = .ok (.istore_n 3, 1) := by decide +kernel
theorem dX7_drops_13 : decode cX7_drops 13 = .ok (.iload_n 3, 1) := by decide +kernel
theorem dX7_drops_14 : decode cX7_drops 14 = .ok (.aload_n 2, 1) := by decide +kernel
theorem dX7_drops_15 : decode cX7_drops 15 = .ok (.arraylength, 1) := by decide +kernel
theorem dX7_drops_16 : decode cX7_drops 16 = .ok (.if_icmp .ge 29, 3) := by decide +kernel
theorem dX7_drops_19 : decode cX7_drops 19 = .ok (.aload_n 2, 1) := by decide +kernel
theorem dX7_drops_20 : decode cX7_drops 20 = .ok (.iload_n 3, 1) := by decide +kernel
theorem dX7_drops_21 : decode cX7_drops 21 = .ok (.aload_n 0, 1) := by decide +kernel
theorem dX7_drops_22 : decode cX7_drops 22 = .ok (.getfield 28, 3) := by decide +kernel
theorem dX7_drops_25 : decode cX7_drops 25 = .ok (.iload_n 3, 1) := by decide +kernel
theorem dX7_drops_26 : decode cX7_drops 26 = .ok (.iload_n 1, 1) := by decide +kernel
theorem dX7_drops_27 : decode cX7_drops 27 = .ok (.if_icmp .ge 7, 3) := by decide +kernel
theorem dX7_drops_30 : decode cX7_drops 30 = .ok (.iload_n 3, 1) := by decide +kernel
theorem dX7_drops_31 : decode cX7_drops 31 = .ok (.goto 6, 3) := by decide +kernel
theorem dX7_drops_34 : decode cX7_drops 34 = .ok (.iload_n 3, 1) := by decide +kernel
theorem dX7_drops_35 : decode cX7_drops 35 = .ok (.iconst 1, 1) := by decide +kernel
theorem dX7_drops_36 : decode cX7_drops 36 = .ok (.iadd, 1) := by decide +kernel
theorem dX7_drops_37 : decode cX7_drops 37 = .ok (.aaload, 1) := by decide +kernel
theorem dX7_drops_38 : decode cX7_drops 38 = .ok (.aastore, 1) := by decide +kernel
theorem dX7_drops_39 : decode cX7_drops 39 = .ok (.iinc 3 1, 3) := by decide +kernel
theorem dX7_drops_42 : decode cX7_drops 42 = .ok (.goto (-29), 3) := by decide +kernel
theorem dX7_drops_45 : decode cX7_drops 45 = .ok (.aload_n 0, 1) := by decide +kernel
theorem dX7_drops_46 : decode cX7_drops 46 = .ok (.aload_n 2, 1) := by decide +kernel
theorem dX7_drops_47 : decode cX7_drops 47 = .ok (.putfield 28, 3) := by decide +kernel
theorem dX7_drops_50 : decode cX7_drops 50 = .ok (.return_, 1) := by decide +kernel
theorem okX7_drops : okY yX7_drops 1 := ⟨by decide +kernel, by decide +kernel, by decide +kernel⟩
def wpX7_drops_b37 (cB : Nat) (Post : Mu → Prop) (K13 : Mu → Nat → Nat → Int32 → Nat → Int32 → Prop) (mu : Mu) (u : Nat) (v0 : Nat) (v1 : Int32) (v2 : Nat) (v3 : Int32) (s0 : Nat) (s1 : Int32) (s2 : Nat) (s3 : Int32) : Prop := ∃ n9 f9 k9, mQ mu s2 = some (2, n9, f9) ∧ s3 = nI k9 ∧ k9 < n9 ∧ n9 ≤ 1000 ∧ ∃ a9, f9 k9 = some a9 ∧ ∃ n10 f10 k10, mQ mu s0 = some (2, n10, f10) ∧ s1 = nI k10 ∧ k10 < n10 ∧ n10 ≤ 1000 ∧ ∃ x10, mP mu a9 = some x10 ∧ ∀ mu11, mu11 = sQ mu s0 (2, n10, va_up f10 k10 (some a9)) → K13 mu11 u v0 v1 v2 (v3 + (1 : Int32))
def wpX7_drops_L13 (cB : Nat) (Post : Mu → Prop)  : Nat → Mu → Nat → Nat → Int32 → Nat → Int32 → Prop
  | 0 => fun _ _ _ _ _ _ => False
  | nn13 + 1 => fun mu u v0 v1 v2 v3 => ∃ n5 f5, mQ mu v2 = some (2, n5, f5) ∧ ((nI n5) ≤ v3 → ∃ x6, mB mu v0 = some x6 ∧ ∀ mu7, mu7 = sB mu v0 (x6.1, x6.2.1, x6.2.2.1, x6.2.2.2.1, x6.2.2.2.2.1, some v2, x6.2.2.2.2.2.2.1, x6.2.2.2.2.2.2.2.1, x6.2.2.2.2.2.2.2.2.1, x6.2.2.2.2.2.2.2.2.2) → u ≤ cB ∧ Post mu7) ∧ (¬ (nI n5) ≤ v3 → ∃ x8, mB mu v0 = some x8 ∧ ∃ a8, x8.2.2.2.2.2.1 = some a8 ∧ (v1 ≤ v3 → wpX7_drops_b37 cB Post (wpX7_drops_L13 cB Post  nn13) mu u v0 v1 v2 v3 v2 v3 a8 (v3 + (1 : Int32))) ∧ (¬ v1 ≤ v3 → wpX7_drops_b37 cB Post (wpX7_drops_L13 cB Post  nn13) mu u v0 v1 v2 v3 v2 v3 a8 v3))
def wpX7_drops (cB : Nat) (mu : Mu) (v0 : Nat) (v1 : Int32) (Post : Mu → Prop) : Prop := ∃ x1, mB mu v0 = some x1 ∧ ∃ a1, x1.2.2.2.2.2.1 = some a1 ∧ ∃ n2 f2, mQ mu a1 = some (2, n2, f2) ∧ ∃ n3, (nI n2) - (1 : Int32) = nI n3 ∧ n3 ≤ 1000 ∧ 0 + (1 + n3 / 16) ≤ cB ∧ ∀ a3, frM mu a3 → ∀ mu4, mu4 = sQ mu a3 (2, n3, fun _ => none) → ∃ m_, wpX7_drops_L13 cB Post  m_ mu4 (0 + (1 + n3 / 16)) v0 v1 a3 (0 : Int32)
set_option maxHeartbeats 4000000 in
set_option maxRecDepth 100000 in
theorem conX7_drops (l : Launch) (D : va_G) (cA : Nat → ClassId) (cB : Nat) (mu : Mu) (v0 : Nat) (v1 : Int32) (Post : Mu → Prop)  (H : wpX7_drops cB mu v0 v1 Post) {w0 ws0 : va_W} (hR : LR cA w0 ws0 mu) : ConN l D cA yX7_drops (wm yX7_drops cX7_drops 4 none) { frames := 0, cells := cB, slots := 16 * cB, locals := 0 } ws0 [.ref v0, .int v1] cB (16 * cB) (PV (fun w1 => ∃ m1, LR cA w0 w1 m1 ∧ Post m1)) := by
  refine ConN.of (by decide) (Nat.le_of_ble_eq_true rfl) ?_
  intro p e s m args below meth c C hF hr hini
  have B37 : ∀ (K13 : Mu → Nat → Nat → Int32 → Nat → Int32 → Prop) (hK13 : ∀ (ws : va_W) (mu : Mu) (u : Nat) (v0 : Nat) (v1 : Int32) (v2 : Nat) (v3 : Int32), LR cA w0 ws mu → K13 mu u v0 v1 v2 v3 → Kf p l e { frames := 0, cells := cB, slots := 16 * cB, locals := 0 } s m args below meth c D (va_A ws0 s.heap.size) 4 u (16 * u) (MQ below (QC D ws0 s.heap.size (PV (fun w1 => ∃ m1, LR cA w0 w1 m1 ∧ Post m1))) args s cB (16 * cB) (va_A ws0 s.heap.size)) ws 13 [(0, .ref v0), (1, .int v1), (2, .ref v2), (3, .int v3)] []) (ws : va_W) (mu : Mu) (u : Nat) (v0 : Nat) (v1 : Int32) (v2 : Nat) (v3 : Int32) (s0 : Nat) (s1 : Int32) (s2 : Nat) (s3 : Int32), LR cA w0 ws mu → wpX7_drops_b37 cB Post K13 mu u v0 v1 v2 v3 s0 s1 s2 s3 → Kf p l e { frames := 0, cells := cB, slots := 16 * cB, locals := 0 } s m args below meth c D (va_A ws0 s.heap.size) 4 u (16 * u) (MQ below (QC D ws0 s.heap.size (PV (fun w1 => ∃ m1, LR cA w0 w1 m1 ∧ Post m1))) args s cB (16 * cB) (va_A ws0 s.heap.size)) ws 37 [(0, .ref v0), (1, .int v1), (2, .ref v2), (3, .int v3)] [.int s3, .ref s2, .int s1, .ref s0] := by
    intro K13 hK13 ws mu u v0 v1 v2 v3 s0 s1 s2 s3 hR H
    have H : ∃ n9 f9 k9, mQ mu s2 = some (2, n9, f9) ∧ s3 = nI k9 ∧ k9 < n9 ∧ n9 ≤ 1000 ∧ ∃ a9, f9 k9 = some a9 ∧ ∃ n10 f10 k10, mQ mu s0 = some (2, n10, f10) ∧ s1 = nI k10 ∧ k10 < n10 ∧ n10 ≤ 1000 ∧ ∃ x10, mP mu a9 = some x10 ∧ ∀ mu11, mu11 = sQ mu s0 (2, n10, va_up f10 k10 (some a9)) → K13 mu11 u v0 v1 v2 (v3 + (1 : Int32)) := H
    obtain ⟨n9, f9, k9, hx_, hk_, hl_, hn_, H⟩ := H
    refine k_eq (pc := 37) (st' := [.int (nI k9), .ref s2, .int s1, .ref s0]) rfl rfl (by rw [hk_]) ?_
    obtain ⟨a9, ha9, H⟩ := H
    refine l_aald C hR (pc := 37) (Or.inl rfl) hx_ hl_ hn_ dX7_drops_37 ?_
    refine k_eq (pc := 38) (st' := [.ref a9, .int s1, .ref s0]) rfl rfl (by rw [ha9]; rfl) ?_
    obtain ⟨n10, f10, k10, hx_, hk_, hl_, hn_, H⟩ := H
    refine k_eq (pc := 38) (st' := [.ref a9, .int (nI k10), .ref s0]) rfl rfl (by rw [hk_]) ?_
    obtain ⟨x10, hy_, H⟩ := H
    refine l_aastP C hR (pc := 38) hx_ hy_ hl_ hn_ dX7_drops_38 (fun w1 hR => ?_)
    obtain ⟨mu11, hm11⟩ : ∃ m_, m_ = sQ mu s0 (2, n10, va_up f10 k10 (some a9)) := ⟨_, rfl⟩
    rw [← hm11] at hR
    have H := H mu11 hm11
    refine k_iinc C (pc := 39) (k := 3) (v := v3 + (1 : Int32)) dX7_drops_39 rfl rfl (Nat.lt_of_lt_of_le (Nat.lt_succ_self _) (Nat.le_of_ble_eq_true rfl)) (lv' := [(3, .int (v3 + (1 : Int32))), (0, .ref v0), (1, .int v1), (2, .ref v2)]) rfl ?_
    refine k_goto C (pc := 42) (tgt := 13) dX7_drops_42 (by decide) ?_
    refine k_lv (pc := 13) [1, 2, 3, 0] (lv' := [(0, .ref v0), (1, .int v1), (2, .ref v2), (3, .int (v3 + (1 : Int32)))]) rfl ?_
    exact hK13 _ mu11 u v0 v1 v2 (v3 + (1 : Int32)) hR H
  have B13 : ∀  (n : Nat) (ws : va_W) (mu : Mu) (u : Nat) (v0 : Nat) (v1 : Int32) (v2 : Nat) (v3 : Int32), LR cA w0 ws mu → wpX7_drops_L13 cB Post  n mu u v0 v1 v2 v3 → Kf p l e { frames := 0, cells := cB, slots := 16 * cB, locals := 0 } s m args below meth c D (va_A ws0 s.heap.size) 4 u (16 * u) (MQ below (QC D ws0 s.heap.size (PV (fun w1 => ∃ m1, LR cA w0 w1 m1 ∧ Post m1))) args s cB (16 * cB) (va_A ws0 s.heap.size)) ws 13 [(0, .ref v0), (1, .int v1), (2, .ref v2), (3, .int v3)] [] := by
    intro  n
    induction n with
    | zero =>
      intro ws mu u v0 v1 v2 v3 hR H
      exact H.elim
    | succ nn13 ih13 =>
      intro ws mu u v0 v1 v2 v3 hR H
      have H : ∃ n5 f5, mQ mu v2 = some (2, n5, f5) ∧ ((nI n5) ≤ v3 → ∃ x6, mB mu v0 = some x6 ∧ ∀ mu7, mu7 = sB mu v0 (x6.1, x6.2.1, x6.2.2.1, x6.2.2.2.1, x6.2.2.2.2.1, some v2, x6.2.2.2.2.2.2.1, x6.2.2.2.2.2.2.2.1, x6.2.2.2.2.2.2.2.2.1, x6.2.2.2.2.2.2.2.2.2) → u ≤ cB ∧ Post mu7) ∧ (¬ (nI n5) ≤ v3 → ∃ x8, mB mu v0 = some x8 ∧ ∃ a8, x8.2.2.2.2.2.1 = some a8 ∧ (v1 ≤ v3 → wpX7_drops_b37 cB Post (wpX7_drops_L13 cB Post  nn13) mu u v0 v1 v2 v3 v2 v3 a8 (v3 + (1 : Int32))) ∧ (¬ v1 ≤ v3 → wpX7_drops_b37 cB Post (wpX7_drops_L13 cB Post  nn13) mu u v0 v1 v2 v3 v2 v3 a8 v3)) := H
      refine k_iload_n C 3 (pc := 13) dX7_drops_13 rfl rfl ?_
      refine k_aload_n C 2 (pc := 14) dX7_drops_14 rfl rfl ?_
      obtain ⟨n5, f5, hx_, H⟩ := H
      refine l_alenQ C hR (pc := 15) (Or.inl rfl) hx_ dX7_drops_15 ?_
      refine k_icmp_ge C (pc := 16) (tgt := 45) dX7_drops_16 (by decide) (fun c_16 => ?_) (fun c_16 => ?_)
      · have H := H.1 c_16
        refine k_aload_n C 0 (pc := 45) dX7_drops_45 rfl rfl ?_
        refine k_aload_n C 2 (pc := 46) dX7_drops_46 rfl rfl ?_
        obtain ⟨x6, hx6, H⟩ := H
        refine l_putB C hR (pc := 47) hx6 5 (Nat.lt_of_lt_of_le (Nat.lt_succ_self _) (Nat.le_of_ble_eq_true rfl)) (ref := "WidowWatchLaw$Book") tW_2_72 rfl rfl  rfl rfl rfl (x1 := ((x6.1, x6.2.1, x6.2.2.1, x6.2.2.2.1, x6.2.2.2.2.1, some v2, x6.2.2.2.2.2.2.1, x6.2.2.2.2.2.2.2.1, x6.2.2.2.2.2.2.2.2.1, x6.2.2.2.2.2.2.2.2.2))) rfl dX7_drops_47 (fun w1 hR => ?_)
        obtain ⟨mu7, hm7⟩ : ∃ m_, m_ = sB mu v0 (x6.1, x6.2.1, x6.2.2.1, x6.2.2.2.1, x6.2.2.2.2.1, some v2, x6.2.2.2.2.2.2.1, x6.2.2.2.2.2.2.2.1, x6.2.2.2.2.2.2.2.2.1, x6.2.2.2.2.2.2.2.2.2) := ⟨_, rfl⟩
        rw [← hm7] at hR
        have H := H mu7 hm7
        obtain ⟨hc_, H⟩ := H
        refine k_widen (k := cB) (n := 16 * cB) hc_ (Nat.mul_le_mul_left 16 hc_) ?_
        exact k_vret C (pc := 50) hr dX7_drops_50 ⟨mu7, hR, H⟩
      · have H := H.2 c_16
        refine k_aload_n C 2 (pc := 19) dX7_drops_19 rfl rfl ?_
        refine k_iload_n C 3 (pc := 20) dX7_drops_20 rfl rfl ?_
        refine k_aload_n C 0 (pc := 21) dX7_drops_21 rfl rfl ?_
        obtain ⟨x8, hx8, H⟩ := H
        obtain ⟨a8, ha8, H⟩ := H
        refine l_getB C hR (pc := 22) hx8 5 (Nat.lt_of_lt_of_le (Nat.lt_succ_self _) (Nat.le_of_ble_eq_true rfl)) (ref := "WidowWatchLaw$Book") tW_2_72 rfl (v := .ref a8) (by show some (va_rf x8.2.2.2.2.2.1) = _; rw [ha8]; rfl) dX7_drops_22 ?_
        refine k_iload_n C 3 (pc := 25) dX7_drops_25 rfl rfl ?_
        refine k_iload_n C 1 (pc := 26) dX7_drops_26 rfl rfl ?_
        refine k_icmp_ge C (pc := 27) (tgt := 34) dX7_drops_27 (by decide) (fun c_27 => ?_) (fun c_27 => ?_)
        · have H := H.1 c_27
          refine k_iload_n C 3 (pc := 34) dX7_drops_34 rfl rfl ?_
          refine k_iconst C (pc := 35) (v := (1 : Int32)) dX7_drops_35 rfl ?_
          refine k_iadd C (pc := 36) dX7_drops_36 ?_
          refine k_lv (pc := 37) [0, 1, 2, 3] (lv' := [(0, .ref v0), (1, .int v1), (2, .ref v2), (3, .int v3)]) rfl ?_
          exact B37 (wpX7_drops_L13 cB Post  nn13) ih13 _ mu u v0 v1 v2 v3 v2 v3 a8 (v3 + (1 : Int32)) hR H
        · have H := H.2 c_27
          refine k_iload_n C 3 (pc := 30) dX7_drops_30 rfl rfl ?_
          refine k_goto C (pc := 31) (tgt := 37) dX7_drops_31 (by decide) ?_
          refine k_lv (pc := 37) [0, 1, 2, 3] (lv' := [(0, .ref v0), (1, .int v1), (2, .ref v2), (3, .int v3)]) rfl ?_
          exact B37 (wpX7_drops_L13 cB Post  nn13) ih13 _ mu u v0 v1 v2 v3 v2 v3 a8 v3 hR H
  refine k_eq (ws' := ws0) (lv' := [(0, .ref v0), (1, .int v1)]) (st' := []) rfl rfl rfl ?_
  have H : ∃ x1, mB mu v0 = some x1 ∧ ∃ a1, x1.2.2.2.2.2.1 = some a1 ∧ ∃ n2 f2, mQ mu a1 = some (2, n2, f2) ∧ ∃ n3, (nI n2) - (1 : Int32) = nI n3 ∧ n3 ≤ 1000 ∧ 0 + (1 + n3 / 16) ≤ cB ∧ ∀ a3, frM mu a3 → ∀ mu4, mu4 = sQ mu a3 (2, n3, fun _ => none) → ∃ m_, wpX7_drops_L13 cB Post  m_ mu4 (0 + (1 + n3 / 16)) v0 v1 a3 (0 : Int32) := H
  refine k_widen (k := 0) (n := 16 * 0) (Nat.le_refl _) (Nat.le_refl _) ?_
  refine k_aload_n C 0 (pc := 0) dX7_drops_0 rfl rfl ?_
  obtain ⟨x1, hx1, H⟩ := H
  obtain ⟨a1, ha1, H⟩ := H
  refine l_getB C hR (pc := 1) hx1 5 (Nat.lt_of_lt_of_le (Nat.lt_succ_self _) (Nat.le_of_ble_eq_true rfl)) (ref := "WidowWatchLaw$Book") tW_2_72 rfl (v := .ref a1) (by show some (va_rf x1.2.2.2.2.2.1) = _; rw [ha1]; rfl) dX7_drops_1 ?_
  obtain ⟨n2, f2, hx_, H⟩ := H
  refine l_alenQ C hR (pc := 4) (Or.inl rfl) hx_ dX7_drops_4 ?_
  refine k_iconst C (pc := 5) (v := (1 : Int32)) dX7_drops_5 rfl ?_
  refine k_isub C (pc := 6) dX7_drops_6 ?_
  obtain ⟨n3, hk_, hn_, hc_, H⟩ := H
  refine k_eq (pc := 7) (st' := [.int (nI n3)]) rfl rfl (by rw [hk_]) ?_
  refine l_newQ2 C hR hF (u := 0) (pc := 7) tW_2_60 hn_ hc_ (Nat.mul_le_mul_left 16 hc_) dX7_drops_7 (fun a3 w1 hf_ hR => ?_)
  have H := H a3 hf_
  obtain ⟨mu4, hm4⟩ : ∃ m_, m_ = sQ mu a3 (2, n3, fun _ => none) := ⟨_, rfl⟩
  rw [← hm4] at hR
  have H := H mu4 hm4
  refine k_astore_n C (pc := 10) dX7_drops_10 rfl (Nat.lt_of_lt_of_le (Nat.lt_succ_self _) (Nat.le_of_ble_eq_true rfl)) (lv' := [(2, .ref a3), (0, .ref v0), (1, .int v1)]) rfl ?_
  refine k_iconst C (pc := 11) (v := (0 : Int32)) dX7_drops_11 rfl ?_
  refine k_istore_n C (pc := 12) dX7_drops_12 rfl (Nat.lt_of_lt_of_le (Nat.lt_succ_self _) (Nat.le_of_ble_eq_true rfl)) (lv' := [(3, .int (0 : Int32)), (2, .ref a3), (0, .ref v0), (1, .int v1)]) rfl ?_
  obtain ⟨n_, H⟩ := H
  refine k_lv (pc := 13) [2, 3, 1, 0] (lv' := [(0, .ref v0), (1, .int v1), (2, .ref a3), (3, .int (0 : Int32))]) rfl ?_
  exact B13  n_ _ mu4 (0 + (1 + n3 / 16)) v0 v1 a3 (0 : Int32) hR H
/-! WidowWatchLaw$Book.plain([I)LWidowWatchLaw$Plan; -/
theorem dX7_plain_0 : decode cX7_plain 0 = .ok (.new 63, 3) := by decide +kernel
theorem dX7_plain_3 : decode cX7_plain 3 = .ok (.dup, 1) := by decide +kernel
theorem dX7_plain_4 : decode cX7_plain 4 = .ok (.invokespecial 66, 3) := by decide +kernel
theorem dX7_plain_7 : decode cX7_plain 7 = .ok (.astore_n 2, 1) := by decide +kernel
theorem dX7_plain_8 : decode cX7_plain 8 = .ok (.aload_n 2, 1) := by decide +kernel
theorem dX7_plain_9 : decode cX7_plain 9 = .ok (.aload_n 1, 1) := by decide +kernel
theorem dX7_plain_10 : decode cX7_plain 10 = .ok (.putfield 70, 3) := by decide +kernel
theorem dX7_plain_13 : decode cX7_plain 13 = .ok (.iconst 0, 1) := by decide +kernel
theorem dX7_plain_14 : decode cX7_plain 14 = .ok (.istore_n 3, 1) := by decide +kernel
theorem dX7_plain_15 : decode cX7_plain 15 = .ok (.iconst 0, 1) := by decide +kernel
theorem dX7_plain_16 : decode cX7_plain 16 = .ok (.istore 4, 2) := by decide +kernel
theorem dX7_plain_18 : decode cX7_plain 18 = .ok (.iconst 0, 1) := by decide +kernel
theorem dX7_plain_19 : decode cX7_plain 19 = .ok (.istore 5, 2) := by decide +kernel
theorem dX7_plain_21 : decode cX7_plain 21 = .ok (.iload 5, 2) := by decide +kernel
theorem dX7_plain_23 : decode cX7_plain 23 = .ok (.aload_n 0, 1) := by decide +kernel
theorem dX7_plain_24 : decode cX7_plain 24 = .ok (.getfield 28, 3) := by decide +kernel
theorem dX7_plain_27 : decode cX7_plain 27 = .ok (.arraylength, 1) := by decide +kernel
theorem dX7_plain_28 : decode cX7_plain 28 = .ok (.if_icmp .ge 157, 3) := by decide +kernel
theorem dX7_plain_31 : decode cX7_plain 31 = .ok (.aload_n 0, 1) := by decide +kernel
theorem dX7_plain_32 : decode cX7_plain 32 = .ok (.iload 5, 2) := by decide +kernel
theorem dX7_plain_34 : decode cX7_plain 34 = .ok (.aload_n 1, 1) := by decide +kernel
theorem dX7_plain_35 : decode cX7_plain 35 = .ok (.iload 5, 2) := by decide +kernel
theorem dX7_plain_37 : decode cX7_plain 37 = .ok (.iaload, 1) := by decide +kernel
theorem dX7_plain_38 : decode cX7_plain 38 = .ok (.invokevirtual 78, 3) := by decide +kernel
theorem dX7_plain_41 : decode cX7_plain 41 = .ok (.istore 6, 2) := by decide +kernel
theorem dX7_plain_43 : decode cX7_plain 43 = .ok (.aload_n 2, 1) := by decide +kernel
theorem dX7_plain_44 : decode cX7_plain 44 = .ok (.dup, 1) := by decide +kernel
theorem dX7_plain_45 : decode cX7_plain 45 = .ok (.getfield 62, 3) := by decide +kernel
theorem dX7_plain_48 : decode cX7_plain 48 = .ok (.aload_n 1, 1) := by decide +kernel
theorem dX7_plain_49 : decode cX7_plain 49 = .ok (.iload 5, 2) := by decide +kernel
theorem dX7_plain_51 : decode cX7_plain 51 = .ok (.iaload, 1) := by decide +kernel
theorem dX7_plain_52 : decode cX7_plain 52 = .ok (.ifCond .ne 7, 3) := by decide +kernel
theorem dX7_plain_55 : decode cX7_plain 55 = .ok (.iconst 0, 1) := by decide +kernel
theorem dX7_plain_56 : decode cX7_plain 56 = .ok (.goto 17, 3) := by decide +kernel
theorem dX7_plain_59 : decode cX7_plain 59 = .ok (.iload 6, 2) := by decide +kernel
theorem dX7_plain_61 : decode cX7_plain 61 = .ok (.aload_n 0, 1) := by decide +kernel
theorem dX7_plain_62 : decode cX7_plain 62 = .ok (.getfield 22, 3) := by decide +kernel
theorem dX7_plain_65 : decode cX7_plain 65 = .ok (.aload_n 1, 1) := by decide +kernel
theorem dX7_plain_66 : decode cX7_plain 66 = .ok (.iload 5, 2) := by decide +kernel
theorem dX7_plain_68 : decode cX7_plain 68 = .ok (.iaload, 1) := by decide +kernel
theorem dX7_plain_69 : decode cX7_plain 69 = .ok (.iconst 1, 1) := by decide +kernel
theorem dX7_plain_70 : decode cX7_plain 70 = .ok (.isub, 1) := by decide +kernel
theorem dX7_plain_71 : decode cX7_plain 71 = .ok (.iaload, 1) := by decide +kernel
theorem dX7_plain_72 : decode cX7_plain 72 = .ok (.imul, 1) := by decide +kernel
theorem dX7_plain_73 : decode cX7_plain 73 = .ok (.iadd, 1) := by decide +kernel
theorem dX7_plain_74 : decode cX7_plain 74 = .ok (.putfield 62, 3) := by decide +kernel
theorem dX7_plain_77 : decode cX7_plain 77 = .ok (.iconst 0, 1) := by decide +kernel
theorem dX7_plain_78 : decode cX7_plain 78 = .ok (.istore 7, 2) := by decide +kernel
theorem dX7_plain_80 : decode cX7_plain 80 = .ok (.iload 7, 2) := by decide +kernel
theorem dX7_plain_82 : decode cX7_plain 82 = .ok (.iload 6, 2) := by decide +kernel
theorem dX7_plain_84 : decode cX7_plain 84 = .ok (.if_icmp .ge 95, 3) := by decide +kernel
theorem dX7_plain_87 : decode cX7_plain 87 = .ok (.iload 7, 2) := by decide +kernel
theorem dX7_plain_89 : decode cX7_plain 89 = .ok (.ifCond .ne 20, 3) := by decide +kernel
theorem dX7_plain_92 : decode cX7_plain 92 = .ok (.aload_n 0, 1) := by decide +kernel
theorem dX7_plain_93 : decode cX7_plain 93 = .ok (.getfield 28, 3) := by decide +kernel
theorem dX7_plain_96 : decode cX7_plain 96 = .ok (.iload 5, 2) := by decide +kernel
theorem dX7_plain_98 : decode cX7_plain 98 = .ok (.aaload, 1) := by decide +kernel
theorem dX7_plain_99 : decode cX7_plain 99 = .ok (.getfield 90, 3) := by decide +kernel
theorem dX7_plain_102 : decode cX7_plain 102 = .ok (.ifCond .eq 7, 3) := by decide +kernel
theorem dX7_plain_105 : decode cX7_plain 105 = .ok (.iconst 1, 1) := by decide +kernel
theorem dX7_plain_106 : decode cX7_plain 106 = .ok (.goto 4, 3) := by decide +kernel
theorem dX7_plain_109 : decode cX7_plain 109 = .ok (.iconst 0, 1) := by decide +kernel
theorem dX7_plain_110 : decode cX7_plain 110 = .ok (.istore 8, 2) := by decide +kernel
theorem dX7_plain_112 : decode cX7_plain 112 = .ok (.iload_n 3, 1) := by decide +kernel
theorem dX7_plain_113 : decode cX7_plain 113 = .ok (.ifCond .eq 16, 3) := by decide +kernel
theorem dX7_plain_116 : decode cX7_plain 116 = .ok (.iload_n 3, 1) := by decide +kernel
theorem dX7_plain_117 : decode cX7_plain 117 = .ok (.aload_n 0, 1) := by decide +kernel
theorem dX7_plain_118 : decode cX7_plain 118 = .ok (.getfield 13, 3) := by decide +kernel
theorem dX7_plain_121 : decode cX7_plain 121 = .ok (.if_icmp .eq 8, 3) := by decide +kernel
theorem dX7_plain_124 : decode cX7_plain 124 = .ok (.iload 8, 2) := by decide +kernel
theorem dX7_plain_126 : decode cX7_plain 126 = .ok (.ifCond .eq 41, 3) := by decide +kernel
theorem dX7_plain_129 : decode cX7_plain 129 = .ok (.iload_n 3, 1) := by decide +kernel
theorem dX7_plain_130 : decode cX7_plain 130 = .ok (.ifCond .le 22, 3) := by decide +kernel
theorem dX7_plain_133 : decode cX7_plain 133 = .ok (.aload_n 2, 1) := by decide +kernel
theorem dX7_plain_134 : decode cX7_plain 134 = .ok (.dup, 1) := by decide +kernel
theorem dX7_plain_135 : decode cX7_plain 135 = .ok (.getfield 62, 3) := by decide +kernel
theorem dX7_plain_138 : decode cX7_plain 138 = .ok (.aload_n 0, 1) := by decide +kernel
theorem dX7_plain_139 : decode cX7_plain 139 = .ok (.iload 5, 2) := by decide +kernel
theorem dX7_plain_141 : decode cX7_plain 141 = .ok (.iload 7, 2) := by decide +kernel
theorem dX7_plain_143 : decode cX7_plain 143 = .ok (.iload 6, 2) := by decide +kernel
theorem dX7_plain_145 : decode cX7_plain 145 = .ok (.invokevirtual 93, 3) := by decide +kernel
theorem dX7_plain_148 : decode cX7_plain 148 = .ok (.iadd, 1) := by decide +kernel
theorem dX7_plain_149 : decode cX7_plain 149 = .ok (.putfield 62, 3) := by decide +kernel
theorem dX7_plain_152 : decode cX7_plain 152 = .ok (.aload_n 2, 1) := by decide +kernel
theorem dX7_plain_153 : decode cX7_plain 153 = .ok (.aload_n 2, 1) := by decide +kernel
theorem dX7_plain_154 : decode cX7_plain 154 = .ok (.getfield 74, 3) := by decide +kernel
theorem dX7_plain_157 : decode cX7_plain 157 = .ok (.iload 4, 2) := by decide +kernel
theorem dX7_plain_159 : decode cX7_plain 159 = .ok (.invokestatic 48, 3) := by decide +kernel
theorem dX7_plain_162 : decode cX7_plain 162 = .ok (.putfield 74, 3) := by decide +kernel
theorem dX7_plain_165 : decode cX7_plain 165 = .ok (.iconst 0, 1) := by decide +kernel
theorem dX7_plain_166 : decode cX7_plain 166 = .ok (.istore_n 3, 1) := by decide +kernel
theorem dX7_plain_167 : decode cX7_plain 167 = .ok (.iinc 3 1, 3) := by decide +kernel
theorem dX7_plain_170 : decode cX7_plain 170 = .ok (.iinc 4 1, 3) := by decide +kernel
theorem dX7_plain_173 : decode cX7_plain 173 = .ok (.iinc 7 1, 3) := by decide +kernel
theorem dX7_plain_176 : decode cX7_plain 176 = .ok (.goto (-96), 3) := by decide +kernel
theorem dX7_plain_179 : decode cX7_plain 179 = .ok (.iinc 5 1, 3) := by decide +kernel
theorem dX7_plain_182 : decode cX7_plain 182 = .ok (.goto (-161), 3) := by decide +kernel
theorem dX7_plain_185 : decode cX7_plain 185 = .ok (.aload_n 2, 1) := by decide +kernel
theorem dX7_plain_186 : decode cX7_plain 186 = .ok (.areturn, 1) := by decide +kernel
theorem okX7_plain : okY yX7_plain 1 := ⟨by decide +kernel, by decide +kernel, by decide +kernel⟩
def wpX7_plain_b167 (cB : Nat) (Post : Nat → Mu → Prop) (K21 : Mu → Nat → Nat → Nat → Nat → Int32 → Int32 → Int32 → Prop) (K80 : Mu → Nat → Nat → Nat → Nat → Int32 → Int32 → Int32 → Int32 → Int32 → Prop) (mu : Mu) (u : Nat) (v0 : Nat) (v1 : Nat) (v2 : Nat) (v3 : Int32) (v4 : Int32) (v5 : Int32) (v6 : Int32) (v7 : Int32) : Prop := K80 mu u v0 v1 v2 (v3 + (1 : Int32)) (v4 + (1 : Int32)) v5 v6 (v7 + (1 : Int32))
def wpX7_plain_b152 (cB : Nat) (Post : Nat → Mu → Prop) (K21 : Mu → Nat → Nat → Nat → Nat → Int32 → Int32 → Int32 → Prop) (K80 : Mu → Nat → Nat → Nat → Nat → Int32 → Int32 → Int32 → Int32 → Int32 → Prop) (mu : Mu) (u : Nat) (v0 : Nat) (v1 : Nat) (v2 : Nat) (v4 : Int32) (v5 : Int32) (v6 : Int32) (v7 : Int32) : Prop := ∃ x20, mL mu v2 = some x20 ∧ ∃ a20, x20.2.2 = some a20 ∧ ∃ q22, u + q22 ≤ cB ∧ wpL_with q22 mu a20 v4 (fun r21 mu23 => ∃ x24, mL mu23 v2 = some x24 ∧ ∀ mu25, mu25 = sL mu23 v2 (x24.1, x24.2.1, some r21) → wpX7_plain_b167 cB Post K21 K80 mu25 (u + q22) v0 v1 v2 (0 : Int32) v4 v5 v6 v7)
def wpX7_plain_b129 (cB : Nat) (Post : Nat → Mu → Prop) (K21 : Mu → Nat → Nat → Nat → Nat → Int32 → Int32 → Int32 → Prop) (K80 : Mu → Nat → Nat → Nat → Nat → Int32 → Int32 → Int32 → Int32 → Int32 → Prop) (mu : Mu) (u : Nat) (v0 : Nat) (v1 : Nat) (v2 : Nat) (v3 : Int32) (v4 : Int32) (v5 : Int32) (v6 : Int32) (v7 : Int32) : Prop := (v3 ≤ 0 → wpX7_plain_b152 cB Post K21 K80 mu u v0 v1 v2 v4 v5 v6 v7) ∧ (¬ v3 ≤ 0 → ∃ x26, mL mu v2 = some x26 ∧ ∃ x27, mB mu v0 = some x27 ∧ u ≤ cB ∧ wpX7_beginning mu v0 v5 v7 v6 (fun r28 => ∃ x29, mL mu v2 = some x29 ∧ ∀ mu30, mu30 = sL mu v2 (x26.1 + r28, x29.2.1, x29.2.2) → wpX7_plain_b152 cB Post K21 K80 mu30 u v0 v1 v2 v4 v5 v6 v7))
def wpX7_plain_b110 (cB : Nat) (Post : Nat → Mu → Prop) (K21 : Mu → Nat → Nat → Nat → Nat → Int32 → Int32 → Int32 → Prop) (K80 : Mu → Nat → Nat → Nat → Nat → Int32 → Int32 → Int32 → Int32 → Int32 → Prop) (mu : Mu) (u : Nat) (v0 : Nat) (v1 : Nat) (v2 : Nat) (v3 : Int32) (v4 : Int32) (v5 : Int32) (v6 : Int32) (v7 : Int32) (s0 : Int32) : Prop := (v3 = 0 → wpX7_plain_b129 cB Post K21 K80 mu u v0 v1 v2 v3 v4 v5 v6 v7) ∧ (¬ v3 = 0 → ∃ x31, mB mu v0 = some x31 ∧ (v3 = x31.2.1 → wpX7_plain_b129 cB Post K21 K80 mu u v0 v1 v2 v3 v4 v5 v6 v7) ∧ (¬ v3 = x31.2.1 → (s0 = 0 → wpX7_plain_b167 cB Post K21 K80 mu u v0 v1 v2 v3 v4 v5 v6 v7) ∧ (¬ s0 = 0 → wpX7_plain_b129 cB Post K21 K80 mu u v0 v1 v2 v3 v4 v5 v6 v7)))
def wpX7_plain_b109 (cB : Nat) (Post : Nat → Mu → Prop) (K21 : Mu → Nat → Nat → Nat → Nat → Int32 → Int32 → Int32 → Prop) (K80 : Mu → Nat → Nat → Nat → Nat → Int32 → Int32 → Int32 → Int32 → Int32 → Prop) (mu : Mu) (u : Nat) (v0 : Nat) (v1 : Nat) (v2 : Nat) (v3 : Int32) (v4 : Int32) (v5 : Int32) (v6 : Int32) (v7 : Int32) : Prop := wpX7_plain_b110 cB Post K21 K80 mu u v0 v1 v2 v3 v4 v5 v6 v7 (0 : Int32)
def wpX7_plain_L80 (cB : Nat) (Post : Nat → Mu → Prop) (K21 : Mu → Nat → Nat → Nat → Nat → Int32 → Int32 → Int32 → Prop) : Nat → Mu → Nat → Nat → Nat → Nat → Int32 → Int32 → Int32 → Int32 → Int32 → Prop
  | 0 => fun _ _ _ _ _ _ _ _ _ _ => False
  | nn80 + 1 => fun mu u v0 v1 v2 v3 v4 v5 v6 v7 => (v6 ≤ v7 → K21 mu u v0 v1 v2 v3 v4 (v5 + (1 : Int32))) ∧ (¬ v6 ≤ v7 → (¬ v7 = 0 → wpX7_plain_b109 cB Post K21 (wpX7_plain_L80 cB Post K21 nn80) mu u v0 v1 v2 v3 v4 v5 v6 v7) ∧ (v7 = 0 → ∃ x32, mB mu v0 = some x32 ∧ ∃ a32, x32.2.2.2.2.2.1 = some a32 ∧ ∃ n33 f33 k33, mQ mu a32 = some (2, n33, f33) ∧ v5 = nI k33 ∧ k33 < n33 ∧ n33 ≤ 1000 ∧ ∃ a33, f33 k33 = some a33 ∧ ∃ x34, mP mu a33 = some x34 ∧ (x34.2.1 = 0 → wpX7_plain_b109 cB Post K21 (wpX7_plain_L80 cB Post K21 nn80) mu u v0 v1 v2 v3 v4 v5 v6 v7) ∧ (¬ x34.2.1 = 0 → wpX7_plain_b110 cB Post K21 (wpX7_plain_L80 cB Post K21 nn80) mu u v0 v1 v2 v3 v4 v5 v6 v7 (1 : Int32))))
def wpX7_plain_b73 (cB : Nat) (Post : Nat → Mu → Prop) (K21 : Mu → Nat → Nat → Nat → Nat → Int32 → Int32 → Int32 → Prop) (mu : Mu) (u : Nat) (v0 : Nat) (v1 : Nat) (v2 : Nat) (v3 : Int32) (v4 : Int32) (v5 : Int32) (v6 : Int32) (s0 : Nat) (s1 : Int32) (s2 : Int32) : Prop := ∃ x18, mL mu s0 = some x18 ∧ ∀ mu19, mu19 = sL mu s0 (s1 + s2, x18.2.1, x18.2.2) → ∃ m_, wpX7_plain_L80 cB Post K21 m_ mu19 u v0 v1 v2 v3 v4 v5 v6 (0 : Int32)
def wpX7_plain_L21 (cB : Nat) (Post : Nat → Mu → Prop)  : Nat → Mu → Nat → Nat → Nat → Nat → Int32 → Int32 → Int32 → Prop
  | 0 => fun _ _ _ _ _ _ _ _ => False
  | nn21 + 1 => fun mu u v0 v1 v2 v3 v4 v5 => ∃ x8, mB mu v0 = some x8 ∧ ∃ a8, x8.2.2.2.2.2.1 = some a8 ∧ ∃ n9 f9, mQ mu a8 = some (2, n9, f9) ∧ ((nI n9) ≤ v5 → u ≤ cB ∧ Post v2 mu) ∧ (¬ (nI n9) ≤ v5 → ∃ n10 f10 k10, mI mu v1 = some (n10, f10) ∧ v5 = nI k10 ∧ k10 < n10 ∧ n10 ≤ 1000 ∧ ∃ x11, mB mu v0 = some x11 ∧ u ≤ cB ∧ wpX7_many mu v0 v5 (f10 k10) (fun r12 => ∃ x13, mL mu v2 = some x13 ∧ ∃ n14 f14 k14, mI mu v1 = some (n14, f14) ∧ v5 = nI k14 ∧ k14 < n14 ∧ n14 ≤ 1000 ∧ (¬ (f14 k14) = 0 → ∃ x15, mB mu v0 = some x15 ∧ ∃ a15, x15.2.2.2.2.1 = some a15 ∧ ∃ n16 f16 k16, mI mu v1 = some (n16, f16) ∧ v5 = nI k16 ∧ k16 < n16 ∧ n16 ≤ 1000 ∧ ∃ n17 f17 k17, mI mu a15 = some (n17, f17) ∧ (f16 k16) - (1 : Int32) = nI k17 ∧ k17 < n17 ∧ n17 ≤ 1000 ∧ wpX7_plain_b73 cB Post (wpX7_plain_L21 cB Post  nn21) mu u v0 v1 v2 v3 v4 v5 r12 v2 x13.1 (r12 * (f17 k17))) ∧ ((f14 k14) = 0 → wpX7_plain_b73 cB Post (wpX7_plain_L21 cB Post  nn21) mu u v0 v1 v2 v3 v4 v5 r12 v2 x13.1 (0 : Int32))))
def wpX7_plain (cB : Nat) (mu : Mu) (v0 : Nat) (v1 : Nat) (Post : Nat → Mu → Prop) : Prop := 0 + 1 ≤ cB ∧ ∀ a1, frM mu a1 → ∀ mu2, mu2 = sL mu a1 (0, none, none) → ∃ q4, (0 + 1) + q4 ≤ cB ∧ wpX9_init q4 mu2 a1 (fun mu5 => ∃ x6, mL mu5 a1 = some x6 ∧ ∀ mu7, mu7 = sL mu5 a1 (x6.1, some v1, x6.2.2) → ∃ m_, wpX7_plain_L21 cB Post  m_ mu7 ((0 + 1) + q4) v0 v1 a1 (0 : Int32) (0 : Int32) (0 : Int32))
set_option maxHeartbeats 4000000 in
set_option maxRecDepth 100000 in
theorem conX7_plain (l : Launch) (D : va_G) (cA : Nat → ClassId) (cB : Nat) (mu : Mu) (v0 : Nat) (v1 : Nat) (Post : Nat → Mu → Prop)  (H : wpX7_plain cB mu v0 v1 Post) {w0 ws0 : va_W} (hR : LR cA w0 ws0 mu) : ConN l D cA yX7_plain (wm yX7_plain cX7_plain 9 (some (.object "WidowWatchLaw$Plan"))) { frames := 2, cells := cB, slots := 16 * cB, locals := 40 } ws0 [.ref v0, .ref v1] cB (16 * cB) (PR (fun r w1 => ∃ m1, LR cA w0 w1 m1 ∧ Post r m1)) := by
  refine ConN.of (by decide) (Nat.le_of_ble_eq_true rfl) ?_
  intro p e s m args below meth c C hF hr hini
  have B167 : ∀ (K21 : Mu → Nat → Nat → Nat → Nat → Int32 → Int32 → Int32 → Prop) (hK21 : ∀ (ws : va_W) (mu : Mu) (u : Nat) (v0 : Nat) (v1 : Nat) (v2 : Nat) (v3 : Int32) (v4 : Int32) (v5 : Int32), LR cA w0 ws mu → K21 mu u v0 v1 v2 v3 v4 v5 → Kf p l e { frames := 2, cells := cB, slots := 16 * cB, locals := 40 } s m args below meth c D (va_A ws0 s.heap.size) 9 u (16 * u) (MQ below (QC D ws0 s.heap.size (PR (fun r w1 => ∃ m1, LR cA w0 w1 m1 ∧ Post r m1))) args s cB (16 * cB) (va_A ws0 s.heap.size)) ws 21 [(0, .ref v0), (1, .ref v1), (2, .ref v2), (3, .int v3), (4, .int v4), (5, .int v5)] []) (K80 : Mu → Nat → Nat → Nat → Nat → Int32 → Int32 → Int32 → Int32 → Int32 → Prop) (hK80 : ∀ (ws : va_W) (mu : Mu) (u : Nat) (v0 : Nat) (v1 : Nat) (v2 : Nat) (v3 : Int32) (v4 : Int32) (v5 : Int32) (v6 : Int32) (v7 : Int32), LR cA w0 ws mu → K80 mu u v0 v1 v2 v3 v4 v5 v6 v7 → Kf p l e { frames := 2, cells := cB, slots := 16 * cB, locals := 40 } s m args below meth c D (va_A ws0 s.heap.size) 9 u (16 * u) (MQ below (QC D ws0 s.heap.size (PR (fun r w1 => ∃ m1, LR cA w0 w1 m1 ∧ Post r m1))) args s cB (16 * cB) (va_A ws0 s.heap.size)) ws 80 [(0, .ref v0), (1, .ref v1), (2, .ref v2), (3, .int v3), (4, .int v4), (5, .int v5), (6, .int v6), (7, .int v7)] []) (ws : va_W) (mu : Mu) (u : Nat) (v0 : Nat) (v1 : Nat) (v2 : Nat) (v3 : Int32) (v4 : Int32) (v5 : Int32) (v6 : Int32) (v7 : Int32), LR cA w0 ws mu → wpX7_plain_b167 cB Post K21 K80 mu u v0 v1 v2 v3 v4 v5 v6 v7 → Kf p l e { frames := 2, cells := cB, slots := 16 * cB, locals := 40 } s m args below meth c D (va_A ws0 s.heap.size) 9 u (16 * u) (MQ below (QC D ws0 s.heap.size (PR (fun r w1 => ∃ m1, LR cA w0 w1 m1 ∧ Post r m1))) args s cB (16 * cB) (va_A ws0 s.heap.size)) ws 167 [(0, .ref v0), (1, .ref v1), (2, .ref v2), (3, .int v3), (4, .int v4), (5, .int v5), (6, .int v6), (7, .int v7)] [] := by
    intro K21 hK21 K80 hK80 ws mu u v0 v1 v2 v3 v4 v5 v6 v7 hR H
    have H : K80 mu u v0 v1 v2 (v3 + (1 : Int32)) (v4 + (1 : Int32)) v5 v6 (v7 + (1 : Int32)) := H
    refine k_iinc C (pc := 167) (k := 3) (v := v3 + (1 : Int32)) dX7_plain_167 rfl rfl (Nat.lt_of_lt_of_le (Nat.lt_succ_self _) (Nat.le_of_ble_eq_true rfl)) (lv' := [(3, .int (v3 + (1 : Int32))), (0, .ref v0), (1, .ref v1), (2, .ref v2), (4, .int v4), (5, .int v5), (6, .int v6), (7, .int v7)]) rfl ?_
    refine k_iinc C (pc := 170) (k := 4) (v := v4 + (1 : Int32)) dX7_plain_170 rfl rfl (Nat.lt_of_lt_of_le (Nat.lt_succ_self _) (Nat.le_of_ble_eq_true rfl)) (lv' := [(4, .int (v4 + (1 : Int32))), (3, .int (v3 + (1 : Int32))), (0, .ref v0), (1, .ref v1), (2, .ref v2), (5, .int v5), (6, .int v6), (7, .int v7)]) rfl ?_
    refine k_iinc C (pc := 173) (k := 7) (v := v7 + (1 : Int32)) dX7_plain_173 rfl rfl (Nat.lt_of_lt_of_le (Nat.lt_succ_self _) (Nat.le_of_ble_eq_true rfl)) (lv' := [(7, .int (v7 + (1 : Int32))), (4, .int (v4 + (1 : Int32))), (3, .int (v3 + (1 : Int32))), (0, .ref v0), (1, .ref v1), (2, .ref v2), (5, .int v5), (6, .int v6)]) rfl ?_
    refine k_goto C (pc := 176) (tgt := 80) dX7_plain_176 (by decide) ?_
    refine k_lv (pc := 80) [3, 4, 5, 2, 1, 6, 7, 0] (lv' := [(0, .ref v0), (1, .ref v1), (2, .ref v2), (3, .int (v3 + (1 : Int32))), (4, .int (v4 + (1 : Int32))), (5, .int v5), (6, .int v6), (7, .int (v7 + (1 : Int32)))]) rfl ?_
    exact hK80 _ mu u v0 v1 v2 (v3 + (1 : Int32)) (v4 + (1 : Int32)) v5 v6 (v7 + (1 : Int32)) hR H
  have B152 : ∀ (K21 : Mu → Nat → Nat → Nat → Nat → Int32 → Int32 → Int32 → Prop) (hK21 : ∀ (ws : va_W) (mu : Mu) (u : Nat) (v0 : Nat) (v1 : Nat) (v2 : Nat) (v3 : Int32) (v4 : Int32) (v5 : Int32), LR cA w0 ws mu → K21 mu u v0 v1 v2 v3 v4 v5 → Kf p l e { frames := 2, cells := cB, slots := 16 * cB, locals := 40 } s m args below meth c D (va_A ws0 s.heap.size) 9 u (16 * u) (MQ below (QC D ws0 s.heap.size (PR (fun r w1 => ∃ m1, LR cA w0 w1 m1 ∧ Post r m1))) args s cB (16 * cB) (va_A ws0 s.heap.size)) ws 21 [(0, .ref v0), (1, .ref v1), (2, .ref v2), (3, .int v3), (4, .int v4), (5, .int v5)] []) (K80 : Mu → Nat → Nat → Nat → Nat → Int32 → Int32 → Int32 → Int32 → Int32 → Prop) (hK80 : ∀ (ws : va_W) (mu : Mu) (u : Nat) (v0 : Nat) (v1 : Nat) (v2 : Nat) (v3 : Int32) (v4 : Int32) (v5 : Int32) (v6 : Int32) (v7 : Int32), LR cA w0 ws mu → K80 mu u v0 v1 v2 v3 v4 v5 v6 v7 → Kf p l e { frames := 2, cells := cB, slots := 16 * cB, locals := 40 } s m args below meth c D (va_A ws0 s.heap.size) 9 u (16 * u) (MQ below (QC D ws0 s.heap.size (PR (fun r w1 => ∃ m1, LR cA w0 w1 m1 ∧ Post r m1))) args s cB (16 * cB) (va_A ws0 s.heap.size)) ws 80 [(0, .ref v0), (1, .ref v1), (2, .ref v2), (3, .int v3), (4, .int v4), (5, .int v5), (6, .int v6), (7, .int v7)] []) (ws : va_W) (mu : Mu) (u : Nat) (v0 : Nat) (v1 : Nat) (v2 : Nat) (v4 : Int32) (v5 : Int32) (v6 : Int32) (v7 : Int32), LR cA w0 ws mu → wpX7_plain_b152 cB Post K21 K80 mu u v0 v1 v2 v4 v5 v6 v7 → Kf p l e { frames := 2, cells := cB, slots := 16 * cB, locals := 40 } s m args below meth c D (va_A ws0 s.heap.size) 9 u (16 * u) (MQ below (QC D ws0 s.heap.size (PR (fun r w1 => ∃ m1, LR cA w0 w1 m1 ∧ Post r m1))) args s cB (16 * cB) (va_A ws0 s.heap.size)) ws 152 [(0, .ref v0), (1, .ref v1), (2, .ref v2), (4, .int v4), (5, .int v5), (6, .int v6), (7, .int v7)] [] := by
    intro K21 hK21 K80 hK80 ws mu u v0 v1 v2 v4 v5 v6 v7 hR H
    have H : ∃ x20, mL mu v2 = some x20 ∧ ∃ a20, x20.2.2 = some a20 ∧ ∃ q22, u + q22 ≤ cB ∧ wpL_with q22 mu a20 v4 (fun r21 mu23 => ∃ x24, mL mu23 v2 = some x24 ∧ ∀ mu25, mu25 = sL mu23 v2 (x24.1, x24.2.1, some r21) → wpX7_plain_b167 cB Post K21 K80 mu25 (u + q22) v0 v1 v2 (0 : Int32) v4 v5 v6 v7) := H
    refine k_aload_n C 2 (pc := 152) dX7_plain_152 rfl rfl ?_
    refine k_aload_n C 2 (pc := 153) dX7_plain_153 rfl rfl ?_
    obtain ⟨x20, hx20, H⟩ := H
    obtain ⟨a20, ha20, H⟩ := H
    refine l_getL C hR (pc := 154) hx20 2 (Nat.lt_of_lt_of_le (Nat.lt_succ_self _) (Nat.le_of_ble_eq_true rfl)) (ref := "WidowWatchLaw$Plan") tW_6_95 rfl (v := .ref a20) (by show some (va_rf x20.2.2) = _; rw [ha20]; rfl) dX7_plain_154 ?_
    refine k_iload C 3 (pc := 157) dX7_plain_157 rfl ?_
    obtain ⟨q22, hc_, H⟩ := H
    refine k_callAr C (pc := 159) (l_runSN C hF (As := [.ref a20, .int v4]) (rest := [.ref v2]) (conL_with l D cA q22 mu a20 v4 _  H hR) ⟨k_cwN C tW_5_21 (k_n16 C) tW_1_0 okL_with rfl rfl ⟨Nat.le_of_ble_eq_true rfl, Nat.le_of_ble_eq_true rfl⟩, C.w tW_5_20, trivial⟩ rfl rfl (Nat.le_of_ble_eq_true rfl) dX7_plain_159 ⟨hc_, by show 16 * (u) + 16 * q22 ≤ 16 * cB; omega⟩) (fun r21 w1 hw_ => ?_)
    obtain ⟨mu23, hR, H⟩ := hw_
    refine k_sl ?_
    obtain ⟨x24, hx24, H⟩ := H
    refine l_putL C hR (pc := 162) hx24 2 (Nat.lt_of_lt_of_le (Nat.lt_succ_self _) (Nat.le_of_ble_eq_true rfl)) (ref := "WidowWatchLaw$Plan") tW_6_95 rfl rfl  rfl rfl rfl (x1 := ((x24.1, x24.2.1, some r21))) rfl dX7_plain_162 (fun w1 hR => ?_)
    obtain ⟨mu25, hm25⟩ : ∃ m_, m_ = sL mu23 v2 (x24.1, x24.2.1, some r21) := ⟨_, rfl⟩
    rw [← hm25] at hR
    have H := H mu25 hm25
    refine k_iconst C (pc := 165) (v := (0 : Int32)) dX7_plain_165 rfl ?_
    refine k_istore_n C (pc := 166) dX7_plain_166 rfl (Nat.lt_of_lt_of_le (Nat.lt_succ_self _) (Nat.le_of_ble_eq_true rfl)) (lv' := [(3, .int (0 : Int32)), (0, .ref v0), (1, .ref v1), (2, .ref v2), (4, .int v4), (5, .int v5), (6, .int v6), (7, .int v7)]) rfl ?_
    refine k_lv (pc := 167) [1, 2, 3, 0, 4, 5, 6, 7] (lv' := [(0, .ref v0), (1, .ref v1), (2, .ref v2), (3, .int (0 : Int32)), (4, .int v4), (5, .int v5), (6, .int v6), (7, .int v7)]) rfl ?_
    exact B167 K21 hK21 K80 hK80 _ mu25 (u + q22) v0 v1 v2 (0 : Int32) v4 v5 v6 v7 hR H
  have B129 : ∀ (K21 : Mu → Nat → Nat → Nat → Nat → Int32 → Int32 → Int32 → Prop) (hK21 : ∀ (ws : va_W) (mu : Mu) (u : Nat) (v0 : Nat) (v1 : Nat) (v2 : Nat) (v3 : Int32) (v4 : Int32) (v5 : Int32), LR cA w0 ws mu → K21 mu u v0 v1 v2 v3 v4 v5 → Kf p l e { frames := 2, cells := cB, slots := 16 * cB, locals := 40 } s m args below meth c D (va_A ws0 s.heap.size) 9 u (16 * u) (MQ below (QC D ws0 s.heap.size (PR (fun r w1 => ∃ m1, LR cA w0 w1 m1 ∧ Post r m1))) args s cB (16 * cB) (va_A ws0 s.heap.size)) ws 21 [(0, .ref v0), (1, .ref v1), (2, .ref v2), (3, .int v3), (4, .int v4), (5, .int v5)] []) (K80 : Mu → Nat → Nat → Nat → Nat → Int32 → Int32 → Int32 → Int32 → Int32 → Prop) (hK80 : ∀ (ws : va_W) (mu : Mu) (u : Nat) (v0 : Nat) (v1 : Nat) (v2 : Nat) (v3 : Int32) (v4 : Int32) (v5 : Int32) (v6 : Int32) (v7 : Int32), LR cA w0 ws mu → K80 mu u v0 v1 v2 v3 v4 v5 v6 v7 → Kf p l e { frames := 2, cells := cB, slots := 16 * cB, locals := 40 } s m args below meth c D (va_A ws0 s.heap.size) 9 u (16 * u) (MQ below (QC D ws0 s.heap.size (PR (fun r w1 => ∃ m1, LR cA w0 w1 m1 ∧ Post r m1))) args s cB (16 * cB) (va_A ws0 s.heap.size)) ws 80 [(0, .ref v0), (1, .ref v1), (2, .ref v2), (3, .int v3), (4, .int v4), (5, .int v5), (6, .int v6), (7, .int v7)] []) (ws : va_W) (mu : Mu) (u : Nat) (v0 : Nat) (v1 : Nat) (v2 : Nat) (v3 : Int32) (v4 : Int32) (v5 : Int32) (v6 : Int32) (v7 : Int32), LR cA w0 ws mu → wpX7_plain_b129 cB Post K21 K80 mu u v0 v1 v2 v3 v4 v5 v6 v7 → Kf p l e { frames := 2, cells := cB, slots := 16 * cB, locals := 40 } s m args below meth c D (va_A ws0 s.heap.size) 9 u (16 * u) (MQ below (QC D ws0 s.heap.size (PR (fun r w1 => ∃ m1, LR cA w0 w1 m1 ∧ Post r m1))) args s cB (16 * cB) (va_A ws0 s.heap.size)) ws 129 [(0, .ref v0), (1, .ref v1), (2, .ref v2), (3, .int v3), (4, .int v4), (5, .int v5), (6, .int v6), (7, .int v7)] [] := by
    intro K21 hK21 K80 hK80 ws mu u v0 v1 v2 v3 v4 v5 v6 v7 hR H
    have H : (v3 ≤ 0 → wpX7_plain_b152 cB Post K21 K80 mu u v0 v1 v2 v4 v5 v6 v7) ∧ (¬ v3 ≤ 0 → ∃ x26, mL mu v2 = some x26 ∧ ∃ x27, mB mu v0 = some x27 ∧ u ≤ cB ∧ wpX7_beginning mu v0 v5 v7 v6 (fun r28 => ∃ x29, mL mu v2 = some x29 ∧ ∀ mu30, mu30 = sL mu v2 (x26.1 + r28, x29.2.1, x29.2.2) → wpX7_plain_b152 cB Post K21 K80 mu30 u v0 v1 v2 v4 v5 v6 v7)) := H
    refine k_iload_n C 3 (pc := 129) dX7_plain_129 rfl rfl ?_
    refine k_if_le C (pc := 130) (tgt := 152) dX7_plain_130 (by decide) (fun c_130 => ?_) (fun c_130 => ?_)
    · have H := H.1 c_130
      refine k_lv (pc := 152) [0, 1, 2, 4, 5, 6, 7] (lv' := [(0, .ref v0), (1, .ref v1), (2, .ref v2), (4, .int v4), (5, .int v5), (6, .int v6), (7, .int v7)]) rfl ?_
      exact B152 K21 hK21 K80 hK80 _ mu u v0 v1 v2 v4 v5 v6 v7 hR H
    · have H := H.2 c_130
      refine k_aload_n C 2 (pc := 133) dX7_plain_133 rfl rfl ?_
      refine k_dup C (pc := 134) dX7_plain_134 rfl ?_
      obtain ⟨x26, hx26, H⟩ := H
      refine l_getL C hR (pc := 135) hx26 0 (Nat.lt_of_lt_of_le (Nat.lt_succ_self _) (Nat.le_of_ble_eq_true rfl)) (ref := "WidowWatchLaw$Plan") tW_6_91 rfl (v := .int x26.1) rfl dX7_plain_135 ?_
      refine k_aload_n C 0 (pc := 138) dX7_plain_138 rfl rfl ?_
      refine k_iload C 5 (pc := 139) dX7_plain_139 rfl ?_
      refine k_iload C 7 (pc := 141) dX7_plain_141 rfl ?_
      refine k_iload C 6 (pc := 143) dX7_plain_143 rfl ?_
      obtain ⟨x27, hx27, H⟩ := H
      obtain ⟨i27, hi27⟩ := List.getElem?_of_mem (hR.B hx27)
      obtain ⟨hc_, H⟩ := H
      refine k_callAi C (pc := 145) (l_runV C hF (As := [.int v5, .int v7, .int v6]) (rest := [.int x26.1, .ref v2]) (ci := 7) (q0 := i27) (conX7_beginning l D cA mu v0 v5 v7 v6 _  H hR) ⟨k_cwB C tW_6_111 tW_6_108 tW_1_9 okX7_beginning rfl rfl ⟨Nat.le_of_ble_eq_true rfl, Nat.le_of_ble_eq_true rfl⟩, C.w tW_6_109, C.w tW_6_110⟩ hi27 rfl rfl rfl rfl (Nat.le_of_ble_eq_true rfl) dX7_plain_145 ⟨hc_, (by show 16 * (u) + 0 ≤ 16 * cB; omega)⟩) (fun r28 w1 hw_ => ?_)
      obtain ⟨rfl, H⟩ := hw_
      refine k_iadd C (pc := 148) dX7_plain_148 ?_
      obtain ⟨x29, hx29, H⟩ := H
      refine l_putL C hR (pc := 149) hx29 0 (Nat.lt_of_lt_of_le (Nat.lt_succ_self _) (Nat.le_of_ble_eq_true rfl)) (ref := "WidowWatchLaw$Plan") tW_6_91 rfl rfl  (ty := .int) rfl rfl rfl (x1 := ((x26.1 + r28, x29.2.1, x29.2.2))) rfl dX7_plain_149 (fun w1 hR => ?_)
      obtain ⟨mu30, hm30⟩ : ∃ m_, m_ = sL mu v2 (x26.1 + r28, x29.2.1, x29.2.2) := ⟨_, rfl⟩
      rw [← hm30] at hR
      have H := H mu30 hm30
      refine k_lv (pc := 152) [0, 1, 2, 4, 5, 6, 7] (lv' := [(0, .ref v0), (1, .ref v1), (2, .ref v2), (4, .int v4), (5, .int v5), (6, .int v6), (7, .int v7)]) rfl ?_
      exact B152 K21 hK21 K80 hK80 _ mu30 u v0 v1 v2 v4 v5 v6 v7 hR H
  have B110 : ∀ (K21 : Mu → Nat → Nat → Nat → Nat → Int32 → Int32 → Int32 → Prop) (hK21 : ∀ (ws : va_W) (mu : Mu) (u : Nat) (v0 : Nat) (v1 : Nat) (v2 : Nat) (v3 : Int32) (v4 : Int32) (v5 : Int32), LR cA w0 ws mu → K21 mu u v0 v1 v2 v3 v4 v5 → Kf p l e { frames := 2, cells := cB, slots := 16 * cB, locals := 40 } s m args below meth c D (va_A ws0 s.heap.size) 9 u (16 * u) (MQ below (QC D ws0 s.heap.size (PR (fun r w1 => ∃ m1, LR cA w0 w1 m1 ∧ Post r m1))) args s cB (16 * cB) (va_A ws0 s.heap.size)) ws 21 [(0, .ref v0), (1, .ref v1), (2, .ref v2), (3, .int v3), (4, .int v4), (5, .int v5)] []) (K80 : Mu → Nat → Nat → Nat → Nat → Int32 → Int32 → Int32 → Int32 → Int32 → Prop) (hK80 : ∀ (ws : va_W) (mu : Mu) (u : Nat) (v0 : Nat) (v1 : Nat) (v2 : Nat) (v3 : Int32) (v4 : Int32) (v5 : Int32) (v6 : Int32) (v7 : Int32), LR cA w0 ws mu → K80 mu u v0 v1 v2 v3 v4 v5 v6 v7 → Kf p l e { frames := 2, cells := cB, slots := 16 * cB, locals := 40 } s m args below meth c D (va_A ws0 s.heap.size) 9 u (16 * u) (MQ below (QC D ws0 s.heap.size (PR (fun r w1 => ∃ m1, LR cA w0 w1 m1 ∧ Post r m1))) args s cB (16 * cB) (va_A ws0 s.heap.size)) ws 80 [(0, .ref v0), (1, .ref v1), (2, .ref v2), (3, .int v3), (4, .int v4), (5, .int v5), (6, .int v6), (7, .int v7)] []) (ws : va_W) (mu : Mu) (u : Nat) (v0 : Nat) (v1 : Nat) (v2 : Nat) (v3 : Int32) (v4 : Int32) (v5 : Int32) (v6 : Int32) (v7 : Int32) (s0 : Int32), LR cA w0 ws mu → wpX7_plain_b110 cB Post K21 K80 mu u v0 v1 v2 v3 v4 v5 v6 v7 s0 → Kf p l e { frames := 2, cells := cB, slots := 16 * cB, locals := 40 } s m args below meth c D (va_A ws0 s.heap.size) 9 u (16 * u) (MQ below (QC D ws0 s.heap.size (PR (fun r w1 => ∃ m1, LR cA w0 w1 m1 ∧ Post r m1))) args s cB (16 * cB) (va_A ws0 s.heap.size)) ws 110 [(0, .ref v0), (1, .ref v1), (2, .ref v2), (3, .int v3), (4, .int v4), (5, .int v5), (6, .int v6), (7, .int v7)] [.int s0] := by
    intro K21 hK21 K80 hK80 ws mu u v0 v1 v2 v3 v4 v5 v6 v7 s0 hR H
    have H : (v3 = 0 → wpX7_plain_b129 cB Post K21 K80 mu u v0 v1 v2 v3 v4 v5 v6 v7) ∧ (¬ v3 = 0 → ∃ x31, mB mu v0 = some x31 ∧ (v3 = x31.2.1 → wpX7_plain_b129 cB Post K21 K80 mu u v0 v1 v2 v3 v4 v5 v6 v7) ∧ (¬ v3 = x31.2.1 → (s0 = 0 → wpX7_plain_b167 cB Post K21 K80 mu u v0 v1 v2 v3 v4 v5 v6 v7) ∧ (¬ s0 = 0 → wpX7_plain_b129 cB Post K21 K80 mu u v0 v1 v2 v3 v4 v5 v6 v7))) := H
    refine k_istore C (pc := 110) dX7_plain_110 (Nat.lt_of_lt_of_le (Nat.lt_succ_self _) (Nat.le_of_ble_eq_true rfl)) (lv' := [(8, .int s0), (0, .ref v0), (1, .ref v1), (2, .ref v2), (3, .int v3), (4, .int v4), (5, .int v5), (6, .int v6), (7, .int v7)]) rfl ?_
    refine k_iload_n C 4 (pc := 112) dX7_plain_112 rfl rfl ?_
    refine k_if_eq C (pc := 113) (tgt := 129) dX7_plain_113 (by decide) (fun c_113 => ?_) (fun c_113 => ?_)
    · have H := H.1 c_113
      refine k_lv (pc := 129) [1, 2, 3, 4, 5, 6, 7, 8] (lv' := [(0, .ref v0), (1, .ref v1), (2, .ref v2), (3, .int v3), (4, .int v4), (5, .int v5), (6, .int v6), (7, .int v7)]) rfl ?_
      exact B129 K21 hK21 K80 hK80 _ mu u v0 v1 v2 v3 v4 v5 v6 v7 hR H
    · have H := H.2 c_113
      refine k_iload_n C 4 (pc := 116) dX7_plain_116 rfl rfl ?_
      refine k_aload_n C 1 (pc := 117) dX7_plain_117 rfl rfl ?_
      obtain ⟨x31, hx31, H⟩ := H
      refine l_getB C hR (pc := 118) hx31 1 (Nat.lt_of_lt_of_le (Nat.lt_succ_self _) (Nat.le_of_ble_eq_true rfl)) (ref := "WidowWatchLaw$Book") tW_2_64 rfl (v := .int x31.2.1) rfl dX7_plain_118 ?_
      refine k_icmp_eq C (pc := 121) (tgt := 129) dX7_plain_121 (by decide) (fun c_121 => ?_) (fun c_121 => ?_)
      · have H := H.1 c_121
        refine k_lv (pc := 129) [1, 2, 3, 4, 5, 6, 7, 8] (lv' := [(0, .ref v0), (1, .ref v1), (2, .ref v2), (3, .int v3), (4, .int v4), (5, .int v5), (6, .int v6), (7, .int v7)]) rfl ?_
        exact B129 K21 hK21 K80 hK80 _ mu u v0 v1 v2 v3 v4 v5 v6 v7 hR H
      · have H := H.2 c_121
        refine k_iload C 0 (pc := 124) dX7_plain_124 rfl ?_
        refine k_if_eq C (pc := 126) (tgt := 167) dX7_plain_126 (by decide) (fun c_126 => ?_) (fun c_126 => ?_)
        · have H := H.1 c_126
          refine k_lv (pc := 167) [1, 2, 3, 4, 5, 6, 7, 8] (lv' := [(0, .ref v0), (1, .ref v1), (2, .ref v2), (3, .int v3), (4, .int v4), (5, .int v5), (6, .int v6), (7, .int v7)]) rfl ?_
          exact B167 K21 hK21 K80 hK80 _ mu u v0 v1 v2 v3 v4 v5 v6 v7 hR H
        · have H := H.2 c_126
          refine k_lv (pc := 129) [1, 2, 3, 4, 5, 6, 7, 8] (lv' := [(0, .ref v0), (1, .ref v1), (2, .ref v2), (3, .int v3), (4, .int v4), (5, .int v5), (6, .int v6), (7, .int v7)]) rfl ?_
          exact B129 K21 hK21 K80 hK80 _ mu u v0 v1 v2 v3 v4 v5 v6 v7 hR H
  have B109 : ∀ (K21 : Mu → Nat → Nat → Nat → Nat → Int32 → Int32 → Int32 → Prop) (hK21 : ∀ (ws : va_W) (mu : Mu) (u : Nat) (v0 : Nat) (v1 : Nat) (v2 : Nat) (v3 : Int32) (v4 : Int32) (v5 : Int32), LR cA w0 ws mu → K21 mu u v0 v1 v2 v3 v4 v5 → Kf p l e { frames := 2, cells := cB, slots := 16 * cB, locals := 40 } s m args below meth c D (va_A ws0 s.heap.size) 9 u (16 * u) (MQ below (QC D ws0 s.heap.size (PR (fun r w1 => ∃ m1, LR cA w0 w1 m1 ∧ Post r m1))) args s cB (16 * cB) (va_A ws0 s.heap.size)) ws 21 [(0, .ref v0), (1, .ref v1), (2, .ref v2), (3, .int v3), (4, .int v4), (5, .int v5)] []) (K80 : Mu → Nat → Nat → Nat → Nat → Int32 → Int32 → Int32 → Int32 → Int32 → Prop) (hK80 : ∀ (ws : va_W) (mu : Mu) (u : Nat) (v0 : Nat) (v1 : Nat) (v2 : Nat) (v3 : Int32) (v4 : Int32) (v5 : Int32) (v6 : Int32) (v7 : Int32), LR cA w0 ws mu → K80 mu u v0 v1 v2 v3 v4 v5 v6 v7 → Kf p l e { frames := 2, cells := cB, slots := 16 * cB, locals := 40 } s m args below meth c D (va_A ws0 s.heap.size) 9 u (16 * u) (MQ below (QC D ws0 s.heap.size (PR (fun r w1 => ∃ m1, LR cA w0 w1 m1 ∧ Post r m1))) args s cB (16 * cB) (va_A ws0 s.heap.size)) ws 80 [(0, .ref v0), (1, .ref v1), (2, .ref v2), (3, .int v3), (4, .int v4), (5, .int v5), (6, .int v6), (7, .int v7)] []) (ws : va_W) (mu : Mu) (u : Nat) (v0 : Nat) (v1 : Nat) (v2 : Nat) (v3 : Int32) (v4 : Int32) (v5 : Int32) (v6 : Int32) (v7 : Int32), LR cA w0 ws mu → wpX7_plain_b109 cB Post K21 K80 mu u v0 v1 v2 v3 v4 v5 v6 v7 → Kf p l e { frames := 2, cells := cB, slots := 16 * cB, locals := 40 } s m args below meth c D (va_A ws0 s.heap.size) 9 u (16 * u) (MQ below (QC D ws0 s.heap.size (PR (fun r w1 => ∃ m1, LR cA w0 w1 m1 ∧ Post r m1))) args s cB (16 * cB) (va_A ws0 s.heap.size)) ws 109 [(0, .ref v0), (1, .ref v1), (2, .ref v2), (3, .int v3), (4, .int v4), (5, .int v5), (6, .int v6), (7, .int v7)] [] := by
    intro K21 hK21 K80 hK80 ws mu u v0 v1 v2 v3 v4 v5 v6 v7 hR H
    have H : wpX7_plain_b110 cB Post K21 K80 mu u v0 v1 v2 v3 v4 v5 v6 v7 (0 : Int32) := H
    refine k_iconst C (pc := 109) (v := (0 : Int32)) dX7_plain_109 rfl ?_
    refine k_lv (pc := 110) [0, 1, 2, 3, 4, 5, 6, 7] (lv' := [(0, .ref v0), (1, .ref v1), (2, .ref v2), (3, .int v3), (4, .int v4), (5, .int v5), (6, .int v6), (7, .int v7)]) rfl ?_
    exact B110 K21 hK21 K80 hK80 _ mu u v0 v1 v2 v3 v4 v5 v6 v7 (0 : Int32) hR H
  have B80 : ∀ (K21 : Mu → Nat → Nat → Nat → Nat → Int32 → Int32 → Int32 → Prop) (hK21 : ∀ (ws : va_W) (mu : Mu) (u : Nat) (v0 : Nat) (v1 : Nat) (v2 : Nat) (v3 : Int32) (v4 : Int32) (v5 : Int32), LR cA w0 ws mu → K21 mu u v0 v1 v2 v3 v4 v5 → Kf p l e { frames := 2, cells := cB, slots := 16 * cB, locals := 40 } s m args below meth c D (va_A ws0 s.heap.size) 9 u (16 * u) (MQ below (QC D ws0 s.heap.size (PR (fun r w1 => ∃ m1, LR cA w0 w1 m1 ∧ Post r m1))) args s cB (16 * cB) (va_A ws0 s.heap.size)) ws 21 [(0, .ref v0), (1, .ref v1), (2, .ref v2), (3, .int v3), (4, .int v4), (5, .int v5)] []) (n : Nat) (ws : va_W) (mu : Mu) (u : Nat) (v0 : Nat) (v1 : Nat) (v2 : Nat) (v3 : Int32) (v4 : Int32) (v5 : Int32) (v6 : Int32) (v7 : Int32), LR cA w0 ws mu → wpX7_plain_L80 cB Post K21 n mu u v0 v1 v2 v3 v4 v5 v6 v7 → Kf p l e { frames := 2, cells := cB, slots := 16 * cB, locals := 40 } s m args below meth c D (va_A ws0 s.heap.size) 9 u (16 * u) (MQ below (QC D ws0 s.heap.size (PR (fun r w1 => ∃ m1, LR cA w0 w1 m1 ∧ Post r m1))) args s cB (16 * cB) (va_A ws0 s.heap.size)) ws 80 [(0, .ref v0), (1, .ref v1), (2, .ref v2), (3, .int v3), (4, .int v4), (5, .int v5), (6, .int v6), (7, .int v7)] [] := by
    intro K21 hK21 n
    induction n with
    | zero =>
      intro ws mu u v0 v1 v2 v3 v4 v5 v6 v7 hR H
      exact H.elim
    | succ nn80 ih80 =>
      intro ws mu u v0 v1 v2 v3 v4 v5 v6 v7 hR H
      have H : (v6 ≤ v7 → K21 mu u v0 v1 v2 v3 v4 (v5 + (1 : Int32))) ∧ (¬ v6 ≤ v7 → (¬ v7 = 0 → wpX7_plain_b109 cB Post K21 (wpX7_plain_L80 cB Post K21 nn80) mu u v0 v1 v2 v3 v4 v5 v6 v7) ∧ (v7 = 0 → ∃ x32, mB mu v0 = some x32 ∧ ∃ a32, x32.2.2.2.2.2.1 = some a32 ∧ ∃ n33 f33 k33, mQ mu a32 = some (2, n33, f33) ∧ v5 = nI k33 ∧ k33 < n33 ∧ n33 ≤ 1000 ∧ ∃ a33, f33 k33 = some a33 ∧ ∃ x34, mP mu a33 = some x34 ∧ (x34.2.1 = 0 → wpX7_plain_b109 cB Post K21 (wpX7_plain_L80 cB Post K21 nn80) mu u v0 v1 v2 v3 v4 v5 v6 v7) ∧ (¬ x34.2.1 = 0 → wpX7_plain_b110 cB Post K21 (wpX7_plain_L80 cB Post K21 nn80) mu u v0 v1 v2 v3 v4 v5 v6 v7 (1 : Int32)))) := H
      refine k_iload C 7 (pc := 80) dX7_plain_80 rfl ?_
      refine k_iload C 6 (pc := 82) dX7_plain_82 rfl ?_
      refine k_icmp_ge C (pc := 84) (tgt := 179) dX7_plain_84 (by decide) (fun c_84 => ?_) (fun c_84 => ?_)
      · have H := H.1 c_84
        refine k_iinc C (pc := 179) (k := 5) (v := v5 + (1 : Int32)) dX7_plain_179 rfl rfl (Nat.lt_of_lt_of_le (Nat.lt_succ_self _) (Nat.le_of_ble_eq_true rfl)) (lv' := [(5, .int (v5 + (1 : Int32))), (0, .ref v0), (1, .ref v1), (2, .ref v2), (3, .int v3), (4, .int v4), (6, .int v6), (7, .int v7)]) rfl ?_
        refine k_goto C (pc := 182) (tgt := 21) dX7_plain_182 (by decide) ?_
        refine k_lv (pc := 21) [1, 2, 3, 4, 5, 0] (lv' := [(0, .ref v0), (1, .ref v1), (2, .ref v2), (3, .int v3), (4, .int v4), (5, .int (v5 + (1 : Int32)))]) rfl ?_
        exact hK21 _ mu u v0 v1 v2 v3 v4 (v5 + (1 : Int32)) hR H
      · have H := H.2 c_84
        refine k_iload C 7 (pc := 87) dX7_plain_87 rfl ?_
        refine k_if_ne C (pc := 89) (tgt := 109) dX7_plain_89 (by decide) (fun c_89 => ?_) (fun c_89 => ?_)
        · have H := H.1 c_89
          refine k_lv (pc := 109) [0, 1, 2, 3, 4, 5, 6, 7] (lv' := [(0, .ref v0), (1, .ref v1), (2, .ref v2), (3, .int v3), (4, .int v4), (5, .int v5), (6, .int v6), (7, .int v7)]) rfl ?_
          exact B109 K21 hK21 (wpX7_plain_L80 cB Post K21 nn80) ih80 _ mu u v0 v1 v2 v3 v4 v5 v6 v7 hR H
        · have H := H.2 c_89
          refine k_aload_n C 0 (pc := 92) dX7_plain_92 rfl rfl ?_
          obtain ⟨x32, hx32, H⟩ := H
          obtain ⟨a32, ha32, H⟩ := H
          refine l_getB C hR (pc := 93) hx32 5 (Nat.lt_of_lt_of_le (Nat.lt_succ_self _) (Nat.le_of_ble_eq_true rfl)) (ref := "WidowWatchLaw$Book") tW_2_72 rfl (v := .ref a32) (by show some (va_rf x32.2.2.2.2.2.1) = _; rw [ha32]; rfl) dX7_plain_93 ?_
          refine k_iload C 5 (pc := 96) dX7_plain_96 rfl ?_
          obtain ⟨n33, f33, k33, hx_, hk_, hl_, hn_, H⟩ := H
          refine k_eq (pc := 98) (st' := [.int (nI k33), .ref a32]) rfl rfl (by rw [hk_]) ?_
          obtain ⟨a33, ha33, H⟩ := H
          refine l_aald C hR (pc := 98) (Or.inl rfl) hx_ hl_ hn_ dX7_plain_98 ?_
          refine k_eq (pc := 99) (st' := [.ref a33]) rfl rfl (by rw [ha33]; rfl) ?_
          obtain ⟨x34, hx34, H⟩ := H
          refine l_getP C hR (pc := 99) hx34 1 (Nat.lt_of_lt_of_le (Nat.lt_succ_self _) (Nat.le_of_ble_eq_true rfl)) (ref := "WidowWatchLaw$Para") tW_2_126 rfl (v := .int x34.2.1) rfl dX7_plain_99 ?_
          refine k_if_eq C (pc := 102) (tgt := 109) dX7_plain_102 (by decide) (fun c_102 => ?_) (fun c_102 => ?_)
          · have H := H.1 c_102
            refine k_lv (pc := 109) [0, 1, 2, 3, 4, 5, 6, 7] (lv' := [(0, .ref v0), (1, .ref v1), (2, .ref v2), (3, .int v3), (4, .int v4), (5, .int v5), (6, .int v6), (7, .int v7)]) rfl ?_
            exact B109 K21 hK21 (wpX7_plain_L80 cB Post K21 nn80) ih80 _ mu u v0 v1 v2 v3 v4 v5 v6 v7 hR H
          · have H := H.2 c_102
            refine k_iconst C (pc := 105) (v := (1 : Int32)) dX7_plain_105 rfl ?_
            refine k_goto C (pc := 106) (tgt := 110) dX7_plain_106 (by decide) ?_
            refine k_lv (pc := 110) [0, 1, 2, 3, 4, 5, 6, 7] (lv' := [(0, .ref v0), (1, .ref v1), (2, .ref v2), (3, .int v3), (4, .int v4), (5, .int v5), (6, .int v6), (7, .int v7)]) rfl ?_
            exact B110 K21 hK21 (wpX7_plain_L80 cB Post K21 nn80) ih80 _ mu u v0 v1 v2 v3 v4 v5 v6 v7 (1 : Int32) hR H
  have B73 : ∀ (K21 : Mu → Nat → Nat → Nat → Nat → Int32 → Int32 → Int32 → Prop) (hK21 : ∀ (ws : va_W) (mu : Mu) (u : Nat) (v0 : Nat) (v1 : Nat) (v2 : Nat) (v3 : Int32) (v4 : Int32) (v5 : Int32), LR cA w0 ws mu → K21 mu u v0 v1 v2 v3 v4 v5 → Kf p l e { frames := 2, cells := cB, slots := 16 * cB, locals := 40 } s m args below meth c D (va_A ws0 s.heap.size) 9 u (16 * u) (MQ below (QC D ws0 s.heap.size (PR (fun r w1 => ∃ m1, LR cA w0 w1 m1 ∧ Post r m1))) args s cB (16 * cB) (va_A ws0 s.heap.size)) ws 21 [(0, .ref v0), (1, .ref v1), (2, .ref v2), (3, .int v3), (4, .int v4), (5, .int v5)] []) (ws : va_W) (mu : Mu) (u : Nat) (v0 : Nat) (v1 : Nat) (v2 : Nat) (v3 : Int32) (v4 : Int32) (v5 : Int32) (v6 : Int32) (s0 : Nat) (s1 : Int32) (s2 : Int32), LR cA w0 ws mu → wpX7_plain_b73 cB Post K21 mu u v0 v1 v2 v3 v4 v5 v6 s0 s1 s2 → Kf p l e { frames := 2, cells := cB, slots := 16 * cB, locals := 40 } s m args below meth c D (va_A ws0 s.heap.size) 9 u (16 * u) (MQ below (QC D ws0 s.heap.size (PR (fun r w1 => ∃ m1, LR cA w0 w1 m1 ∧ Post r m1))) args s cB (16 * cB) (va_A ws0 s.heap.size)) ws 73 [(0, .ref v0), (1, .ref v1), (2, .ref v2), (3, .int v3), (4, .int v4), (5, .int v5), (6, .int v6)] [.int s2, .int s1, .ref s0] := by
    intro K21 hK21 ws mu u v0 v1 v2 v3 v4 v5 v6 s0 s1 s2 hR H
    have H : ∃ x18, mL mu s0 = some x18 ∧ ∀ mu19, mu19 = sL mu s0 (s1 + s2, x18.2.1, x18.2.2) → ∃ m_, wpX7_plain_L80 cB Post K21 m_ mu19 u v0 v1 v2 v3 v4 v5 v6 (0 : Int32) := H
    refine k_iadd C (pc := 73) dX7_plain_73 ?_
    obtain ⟨x18, hx18, H⟩ := H
    refine l_putL C hR (pc := 74) hx18 0 (Nat.lt_of_lt_of_le (Nat.lt_succ_self _) (Nat.le_of_ble_eq_true rfl)) (ref := "WidowWatchLaw$Plan") tW_6_91 rfl rfl  (ty := .int) rfl rfl rfl (x1 := ((s1 + s2, x18.2.1, x18.2.2))) rfl dX7_plain_74 (fun w1 hR => ?_)
    obtain ⟨mu19, hm19⟩ : ∃ m_, m_ = sL mu s0 (s1 + s2, x18.2.1, x18.2.2) := ⟨_, rfl⟩
    rw [← hm19] at hR
    have H := H mu19 hm19
    refine k_iconst C (pc := 77) (v := (0 : Int32)) dX7_plain_77 rfl ?_
    refine k_istore C (pc := 78) dX7_plain_78 (Nat.lt_of_lt_of_le (Nat.lt_succ_self _) (Nat.le_of_ble_eq_true rfl)) (lv' := [(7, .int (0 : Int32)), (0, .ref v0), (1, .ref v1), (2, .ref v2), (3, .int v3), (4, .int v4), (5, .int v5), (6, .int v6)]) rfl ?_
    obtain ⟨n_, H⟩ := H
    refine k_lv (pc := 80) [1, 2, 3, 4, 5, 6, 7, 0] (lv' := [(0, .ref v0), (1, .ref v1), (2, .ref v2), (3, .int v3), (4, .int v4), (5, .int v5), (6, .int v6), (7, .int (0 : Int32))]) rfl ?_
    exact B80 K21 hK21 n_ _ mu19 u v0 v1 v2 v3 v4 v5 v6 (0 : Int32) hR H
  have B21 : ∀  (n : Nat) (ws : va_W) (mu : Mu) (u : Nat) (v0 : Nat) (v1 : Nat) (v2 : Nat) (v3 : Int32) (v4 : Int32) (v5 : Int32), LR cA w0 ws mu → wpX7_plain_L21 cB Post  n mu u v0 v1 v2 v3 v4 v5 → Kf p l e { frames := 2, cells := cB, slots := 16 * cB, locals := 40 } s m args below meth c D (va_A ws0 s.heap.size) 9 u (16 * u) (MQ below (QC D ws0 s.heap.size (PR (fun r w1 => ∃ m1, LR cA w0 w1 m1 ∧ Post r m1))) args s cB (16 * cB) (va_A ws0 s.heap.size)) ws 21 [(0, .ref v0), (1, .ref v1), (2, .ref v2), (3, .int v3), (4, .int v4), (5, .int v5)] [] := by
    intro  n
    induction n with
    | zero =>
      intro ws mu u v0 v1 v2 v3 v4 v5 hR H
      exact H.elim
    | succ nn21 ih21 =>
      intro ws mu u v0 v1 v2 v3 v4 v5 hR H
      have H : ∃ x8, mB mu v0 = some x8 ∧ ∃ a8, x8.2.2.2.2.2.1 = some a8 ∧ ∃ n9 f9, mQ mu a8 = some (2, n9, f9) ∧ ((nI n9) ≤ v5 → u ≤ cB ∧ Post v2 mu) ∧ (¬ (nI n9) ≤ v5 → ∃ n10 f10 k10, mI mu v1 = some (n10, f10) ∧ v5 = nI k10 ∧ k10 < n10 ∧ n10 ≤ 1000 ∧ ∃ x11, mB mu v0 = some x11 ∧ u ≤ cB ∧ wpX7_many mu v0 v5 (f10 k10) (fun r12 => ∃ x13, mL mu v2 = some x13 ∧ ∃ n14 f14 k14, mI mu v1 = some (n14, f14) ∧ v5 = nI k14 ∧ k14 < n14 ∧ n14 ≤ 1000 ∧ (¬ (f14 k14) = 0 → ∃ x15, mB mu v0 = some x15 ∧ ∃ a15, x15.2.2.2.2.1 = some a15 ∧ ∃ n16 f16 k16, mI mu v1 = some (n16, f16) ∧ v5 = nI k16 ∧ k16 < n16 ∧ n16 ≤ 1000 ∧ ∃ n17 f17 k17, mI mu a15 = some (n17, f17) ∧ (f16 k16) - (1 : Int32) = nI k17 ∧ k17 < n17 ∧ n17 ≤ 1000 ∧ wpX7_plain_b73 cB Post (wpX7_plain_L21 cB Post  nn21) mu u v0 v1 v2 v3 v4 v5 r12 v2 x13.1 (r12 * (f17 k17))) ∧ ((f14 k14) = 0 → wpX7_plain_b73 cB Post (wpX7_plain_L21 cB Post  nn21) mu u v0 v1 v2 v3 v4 v5 r12 v2 x13.1 (0 : Int32)))) := H
      refine k_iload C 5 (pc := 21) dX7_plain_21 rfl ?_
      refine k_aload_n C 0 (pc := 23) dX7_plain_23 rfl rfl ?_
      obtain ⟨x8, hx8, H⟩ := H
      obtain ⟨a8, ha8, H⟩ := H
      refine l_getB C hR (pc := 24) hx8 5 (Nat.lt_of_lt_of_le (Nat.lt_succ_self _) (Nat.le_of_ble_eq_true rfl)) (ref := "WidowWatchLaw$Book") tW_2_72 rfl (v := .ref a8) (by show some (va_rf x8.2.2.2.2.2.1) = _; rw [ha8]; rfl) dX7_plain_24 ?_
      obtain ⟨n9, f9, hx_, H⟩ := H
      refine l_alenQ C hR (pc := 27) (Or.inl rfl) hx_ dX7_plain_27 ?_
      refine k_icmp_ge C (pc := 28) (tgt := 185) dX7_plain_28 (by decide) (fun c_28 => ?_) (fun c_28 => ?_)
      · have H := H.1 c_28
        refine k_aload_n C 2 (pc := 185) dX7_plain_185 rfl rfl ?_
        obtain ⟨hc_, H⟩ := H
        refine k_widen (k := cB) (n := 16 * cB) hc_ (Nat.mul_le_mul_left 16 hc_) ?_
        exact k_aret C (pc := 186) hr (Or.inl ⟨_, rfl⟩) dX7_plain_186 ⟨mu, hR, H⟩
      · have H := H.2 c_28
        refine k_aload_n C 0 (pc := 31) dX7_plain_31 rfl rfl ?_
        refine k_iload C 5 (pc := 32) dX7_plain_32 rfl ?_
        refine k_aload_n C 1 (pc := 34) dX7_plain_34 rfl rfl ?_
        refine k_iload C 5 (pc := 35) dX7_plain_35 rfl ?_
        obtain ⟨n10, f10, k10, hx_, hk_, hl_, hn_, H⟩ := H
        refine k_eq (pc := 37) (st' := [.int (nI k10), .ref v1, .int v5, .ref v0]) rfl rfl (by rw [hk_]) ?_
        refine l_iald C hR (pc := 37) hx_ hl_ hn_ dX7_plain_37 ?_
        obtain ⟨x11, hx11, H⟩ := H
        obtain ⟨i11, hi11⟩ := List.getElem?_of_mem (hR.B hx11)
        obtain ⟨hc_, H⟩ := H
        refine k_callAi C (pc := 38) (l_runV C hF (As := [.int v5, .int (f10 k10)]) (rest := []) (ci := 7) (q0 := i11) (conX7_many l D cA mu v0 v5 (f10 k10) _  H hR) ⟨k_cwB C tW_2_154 tW_6_103 tW_1_9 okX7_many rfl rfl ⟨Nat.le_of_ble_eq_true rfl, Nat.le_of_ble_eq_true rfl⟩, C.w tW_2_152, C.w tW_2_153⟩ hi11 rfl rfl rfl rfl (Nat.le_of_ble_eq_true rfl) dX7_plain_38 ⟨hc_, (by show 16 * (u) + 0 ≤ 16 * cB; omega)⟩) (fun r12 w1 hw_ => ?_)
        obtain ⟨rfl, H⟩ := hw_
        refine k_istore C (pc := 41) dX7_plain_41 (Nat.lt_of_lt_of_le (Nat.lt_succ_self _) (Nat.le_of_ble_eq_true rfl)) (lv' := [(6, .int r12), (0, .ref v0), (1, .ref v1), (2, .ref v2), (3, .int v3), (4, .int v4), (5, .int v5)]) rfl ?_
        refine k_aload_n C 3 (pc := 43) dX7_plain_43 rfl rfl ?_
        refine k_dup C (pc := 44) dX7_plain_44 rfl ?_
        obtain ⟨x13, hx13, H⟩ := H
        refine l_getL C hR (pc := 45) hx13 0 (Nat.lt_of_lt_of_le (Nat.lt_succ_self _) (Nat.le_of_ble_eq_true rfl)) (ref := "WidowWatchLaw$Plan") tW_6_91 rfl (v := .int x13.1) rfl dX7_plain_45 ?_
        refine k_aload_n C 2 (pc := 48) dX7_plain_48 rfl rfl ?_
        refine k_iload C 6 (pc := 49) dX7_plain_49 rfl ?_
        obtain ⟨n14, f14, k14, hx_, hk_, hl_, hn_, H⟩ := H
        refine k_eq (pc := 51) (st' := [.int (nI k14), .ref v1, .int x13.1, .ref v2]) rfl rfl (by rw [hk_]) ?_
        refine l_iald C hR (pc := 51) hx_ hl_ hn_ dX7_plain_51 ?_
        refine k_if_ne C (pc := 52) (tgt := 59) dX7_plain_52 (by decide) (fun c_52 => ?_) (fun c_52 => ?_)
        · have H := H.1 c_52
          refine k_iload C 0 (pc := 59) dX7_plain_59 rfl ?_
          refine k_aload_n C 1 (pc := 61) dX7_plain_61 rfl rfl ?_
          obtain ⟨x15, hx15, H⟩ := H
          obtain ⟨a15, ha15, H⟩ := H
          refine l_getB C hR (pc := 62) hx15 4 (Nat.lt_of_lt_of_le (Nat.lt_succ_self _) (Nat.le_of_ble_eq_true rfl)) (ref := "WidowWatchLaw$Book") tW_2_70 rfl (v := .ref a15) (by show some (va_rf x15.2.2.2.2.1) = _; rw [ha15]; rfl) dX7_plain_62 ?_
          refine k_aload_n C 2 (pc := 65) dX7_plain_65 rfl rfl ?_
          refine k_iload C 6 (pc := 66) dX7_plain_66 rfl ?_
          obtain ⟨n16, f16, k16, hx_, hk_, hl_, hn_, H⟩ := H
          refine k_eq (pc := 68) (st' := [.int (nI k16), .ref v1, .ref a15, .int r12, .int x13.1, .ref v2]) rfl rfl (by rw [hk_]) ?_
          refine l_iald C hR (pc := 68) hx_ hl_ hn_ dX7_plain_68 ?_
          refine k_iconst C (pc := 69) (v := (1 : Int32)) dX7_plain_69 rfl ?_
          refine k_isub C (pc := 70) dX7_plain_70 ?_
          obtain ⟨n17, f17, k17, hx_, hk_, hl_, hn_, H⟩ := H
          refine k_eq (pc := 71) (st' := [.int (nI k17), .ref a15, .int r12, .int x13.1, .ref v2]) rfl rfl (by rw [hk_]) ?_
          refine l_iald C hR (pc := 71) hx_ hl_ hn_ dX7_plain_71 ?_
          refine k_imul C (pc := 72) dX7_plain_72 ?_
          refine k_lv (pc := 73) [1, 2, 3, 4, 5, 6, 0] (lv' := [(0, .ref v0), (1, .ref v1), (2, .ref v2), (3, .int v3), (4, .int v4), (5, .int v5), (6, .int r12)]) rfl ?_
          exact B73 (wpX7_plain_L21 cB Post  nn21) ih21 _ mu u v0 v1 v2 v3 v4 v5 r12 v2 x13.1 (r12 * (f17 k17)) hR H
        · have H := H.2 c_52
          refine k_iconst C (pc := 55) (v := (0 : Int32)) dX7_plain_55 rfl ?_
          refine k_goto C (pc := 56) (tgt := 73) dX7_plain_56 (by decide) ?_
          refine k_lv (pc := 73) [1, 2, 3, 4, 5, 6, 0] (lv' := [(0, .ref v0), (1, .ref v1), (2, .ref v2), (3, .int v3), (4, .int v4), (5, .int v5), (6, .int r12)]) rfl ?_
          exact B73 (wpX7_plain_L21 cB Post  nn21) ih21 _ mu u v0 v1 v2 v3 v4 v5 r12 v2 x13.1 (0 : Int32) hR H
  refine k_eq (ws' := ws0) (lv' := [(0, .ref v0), (1, .ref v1)]) (st' := []) rfl rfl rfl ?_
  have H : 0 + 1 ≤ cB ∧ ∀ a1, frM mu a1 → ∀ mu2, mu2 = sL mu a1 (0, none, none) → ∃ q4, (0 + 1) + q4 ≤ cB ∧ wpX9_init q4 mu2 a1 (fun mu5 => ∃ x6, mL mu5 a1 = some x6 ∧ ∀ mu7, mu7 = sL mu5 a1 (x6.1, some v1, x6.2.2) → ∃ m_, wpX7_plain_L21 cB Post  m_ mu7 ((0 + 1) + q4) v0 v1 a1 (0 : Int32) (0 : Int32) (0 : Int32)) := H
  refine k_widen (k := 0) (n := 16 * 0) (Nat.le_refl _) (Nat.le_refl _) ?_
  obtain ⟨hc_, H⟩ := H
  refine l_newL C hR (u := 0) (pc := 0) tW_6_85 tW_6_86 tW_1_10 hc_ (Nat.mul_le_mul_left 16 hc_) dX7_plain_0 (fun a1 w1 hf_ hR => ?_)
  have H := H a1 hf_
  obtain ⟨mu2, hm2⟩ : ∃ m_, m_ = sL mu a1 (0, none, none) := ⟨_, rfl⟩
  rw [← hm2] at hR
  have H := H mu2 hm2
  refine k_dup C (pc := 3) dX7_plain_3 rfl ?_
  obtain ⟨q4, hc_, H⟩ := H
  refine k_callAv C (pc := 4) (l_runIN C hF (As := []) (rest := [.ref a1]) (conX9_init l D cA q4 mu2 a1 _  H hR) ⟨k_cwN C tW_6_89 (k_n17 C) tW_1_10 okX9_init rfl rfl ⟨Nat.le_of_ble_eq_true rfl, Nat.le_of_ble_eq_true rfl⟩, rfl, C.w tW_6_88⟩ rfl rfl (Nat.le_of_ble_eq_true rfl) dX7_plain_4 ⟨hc_, by show 16 * (0 + 1) + 16 * q4 ≤ 16 * cB; omega⟩) (fun w1 hw_ => ?_)
  obtain ⟨mu5, hR, H⟩ := hw_
  refine k_sl ?_
  refine k_astore_n C (pc := 7) dX7_plain_7 rfl (Nat.lt_of_lt_of_le (Nat.lt_succ_self _) (Nat.le_of_ble_eq_true rfl)) (lv' := [(2, .ref a1), (0, .ref v0), (1, .ref v1)]) rfl ?_
  refine k_aload_n C 0 (pc := 8) dX7_plain_8 rfl rfl ?_
  refine k_aload_n C 2 (pc := 9) dX7_plain_9 rfl rfl ?_
  obtain ⟨x6, hx6, H⟩ := H
  refine l_putL C hR (pc := 10) hx6 1 (Nat.lt_of_lt_of_le (Nat.lt_succ_self _) (Nat.le_of_ble_eq_true rfl)) (ref := "WidowWatchLaw$Plan") tW_6_93 rfl rfl  rfl rfl rfl (x1 := ((x6.1, some v1, x6.2.2))) rfl dX7_plain_10 (fun w1 hR => ?_)
  obtain ⟨mu7, hm7⟩ : ∃ m_, m_ = sL mu5 a1 (x6.1, some v1, x6.2.2) := ⟨_, rfl⟩
  rw [← hm7] at hR
  have H := H mu7 hm7
  refine k_iconst C (pc := 13) (v := (0 : Int32)) dX7_plain_13 rfl ?_
  refine k_istore_n C (pc := 14) dX7_plain_14 rfl (Nat.lt_of_lt_of_le (Nat.lt_succ_self _) (Nat.le_of_ble_eq_true rfl)) (lv' := [(3, .int (0 : Int32)), (2, .ref a1), (0, .ref v0), (1, .ref v1)]) rfl ?_
  refine k_iconst C (pc := 15) (v := (0 : Int32)) dX7_plain_15 rfl ?_
  refine k_istore C (pc := 16) dX7_plain_16 (Nat.lt_of_lt_of_le (Nat.lt_succ_self _) (Nat.le_of_ble_eq_true rfl)) (lv' := [(4, .int (0 : Int32)), (3, .int (0 : Int32)), (2, .ref a1), (0, .ref v0), (1, .ref v1)]) rfl ?_
  refine k_iconst C (pc := 18) (v := (0 : Int32)) dX7_plain_18 rfl ?_
  refine k_istore C (pc := 19) dX7_plain_19 (Nat.lt_of_lt_of_le (Nat.lt_succ_self _) (Nat.le_of_ble_eq_true rfl)) (lv' := [(5, .int (0 : Int32)), (4, .int (0 : Int32)), (3, .int (0 : Int32)), (2, .ref a1), (0, .ref v0), (1, .ref v1)]) rfl ?_
  obtain ⟨n_, H⟩ := H
  refine k_lv (pc := 21) [4, 5, 3, 2, 1, 0] (lv' := [(0, .ref v0), (1, .ref v1), (2, .ref a1), (3, .int (0 : Int32)), (4, .int (0 : Int32)), (5, .int (0 : Int32))]) rfl ?_
  exact B21  n_ _ mu7 ((0 + 1) + q4) v0 v1 a1 (0 : Int32) (0 : Int32) (0 : Int32) hR H
