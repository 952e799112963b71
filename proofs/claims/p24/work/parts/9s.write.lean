/-! WidowWatchLaw.flush(LWidowWatch;[I)V -/
theorem dL_flush_0 : decode cL_flush 0 = .ok (.aload_n 0, 1) := by decide +kernel
theorem dL_flush_1 : decode cL_flush 1 = .ok (.aload_n 1, 1) := by decide +kernel
theorem dL_flush_2 : decode cL_flush 2 = .ok (.iconst 1, 1) := by decide +kernel
theorem dL_flush_3 : decode cL_flush 3 = .ok (.iaload, 1) := by decide +kernel
theorem dL_flush_4 : decode cL_flush 4 = .ok (.aload_n 1, 1) := by decide +kernel
theorem dL_flush_5 : decode cL_flush 5 = .ok (.iconst 2, 1) := by decide +kernel
theorem dL_flush_6 : decode cL_flush 6 = .ok (.iaload, 1) := by decide +kernel
theorem dL_flush_7 : decode cL_flush 7 = .ok (.aload_n 1, 1) := by decide +kernel
theorem dL_flush_8 : decode cL_flush 8 = .ok (.iconst 3, 1) := by decide +kernel
theorem dL_flush_9 : decode cL_flush 9 = .ok (.iaload, 1) := by decide +kernel
theorem dL_flush_10 : decode cL_flush 10 = .ok (.aload_n 1, 1) := by decide +kernel
theorem dL_flush_11 : decode cL_flush 11 = .ok (.iconst 4, 1) := by decide +kernel
theorem dL_flush_12 : decode cL_flush 12 = .ok (.iaload, 1) := by decide +kernel
theorem dL_flush_13 : decode cL_flush 13 = .ok (.aload_n 1, 1) := by decide +kernel
theorem dL_flush_14 : decode cL_flush 14 = .ok (.iconst 5, 1) := by decide +kernel
theorem dL_flush_15 : decode cL_flush 15 = .ok (.iaload, 1) := by decide +kernel
theorem dL_flush_16 : decode cL_flush 16 = .ok (.invokevirtual 13, 3) := by decide +kernel
theorem dL_flush_19 : decode cL_flush 19 = .ok (.pop, 1) := by decide +kernel
theorem dL_flush_20 : decode cL_flush 20 = .ok (.iconst 1, 1) := by decide +kernel
theorem dL_flush_21 : decode cL_flush 21 = .ok (.istore_n 2, 1) := by decide +kernel
theorem dL_flush_22 : decode cL_flush 22 = .ok (.iload_n 2, 1) := by decide +kernel
theorem dL_flush_23 : decode cL_flush 23 = .ok (.bipush 6, 2) := by decide +kernel
theorem dL_flush_25 : decode cL_flush 25 = .ok (.if_icmp .ge 13, 3) := by decide +kernel
theorem dL_flush_28 : decode cL_flush 28 = .ok (.aload_n 1, 1) := by decide +kernel
theorem dL_flush_29 : decode cL_flush 29 = .ok (.iload_n 2, 1) := by decide +kernel
theorem dL_flush_30 : decode cL_flush 30 = .ok (.iconst 0, 1) := by decide +kernel
theorem dL_flush_31 : decode cL_flush 31 = .ok (.iastore, 1) := by decide +kernel
theorem dL_flush_32 : decode cL_flush 32 = .ok (.iinc 2 1, 3) := by decide +kernel
theorem dL_flush_35 : decode cL_flush 35 = .ok (.goto (-13), 3) := by decide +kernel
theorem dL_flush_38 : decode cL_flush 38 = .ok (.return_, 1) := by decide +kernel
theorem okL_flush : okY yL_flush 2 := ⟨by decide +kernel, by decide +kernel, by decide +kernel⟩
def wpL_flush_L22 (cB : Nat) (Post : ivS → Mu → Prop)  : Nat → ivS → Mu → Nat → Nat → Int32 → Prop
  | 0 => fun _ _ _ _ _ => False
  | nn22 + 1 => fun S mu u v1 v2 => ((6 : Int32) ≤ v2 → u ≤ cB ∧ Post S mu) ∧ (¬ (6 : Int32) ≤ v2 → ∃ n7 f7 k7, mI mu v1 = some (n7, f7) ∧ v2 = nI k7 ∧ k7 < n7 ∧ n7 ≤ 1000 ∧ ∀ mu8, mu8 = sI mu v1 (n7, upd f7 k7 (0 : Int32)) → (wpL_flush_L22 cB Post  nn22) S mu8 u v1 (v2 + (1 : Int32)))
def wpL_flush (cB : Nat) (S : ivS) (mu : Mu) (v1 : Nat) (Post : ivS → Mu → Prop) : Prop := ∃ n1 f1 k1, mI mu v1 = some (n1, f1) ∧ (1 : Int32) = nI k1 ∧ k1 < n1 ∧ n1 ≤ 1000 ∧ ∃ n2 f2 k2, mI mu v1 = some (n2, f2) ∧ (2 : Int32) = nI k2 ∧ k2 < n2 ∧ n2 ≤ 1000 ∧ ∃ n3 f3 k3, mI mu v1 = some (n3, f3) ∧ (3 : Int32) = nI k3 ∧ k3 < n3 ∧ n3 ≤ 1000 ∧ ∃ n4 f4 k4, mI mu v1 = some (n4, f4) ∧ (4 : Int32) = nI k4 ∧ k4 < n4 ∧ n4 ≤ 1000 ∧ ∃ n5 f5 k5, mI mu v1 = some (n5, f5) ∧ (5 : Int32) = nI k5 ∧ k5 < n5 ∧ n5 ≤ 1000 ∧ 0 ≤ cB ∧ ∀ S6, S6 = (s_append S (f1 k1) (f2 k2) (f3 k3) (f4 k4) (f5 k5)).2.2.2 → ∀ r6, r6 = (s_append S (f1 k1) (f2 k2) (f3 k3) (f4 k4) (f5 k5)).2.1 → ∃ m_, wpL_flush_L22 cB Post  m_ S6 mu 0 v1 (1 : Int32)
set_option maxHeartbeats 4000000 in
set_option maxRecDepth 100000 in
theorem conL_flush (l : Launch) (D : va_G) (cA : Nat → ClassId) (h ab ac ar : Nat → Nat) (hst : l.stackTraces = false) (cB : Nat) (S : ivS) (mu : Mu) (v1 : Nat) (Post : ivS → Mu → Prop)  (H : wpL_flush cB S mu v1 Post) {w0 ws0 : va_W} (hI : ivI cA h ab ac ar S false w0) (hR : LR cA w0 ws0 mu) : ConW l D cA yL_flush (wm yL_flush cL_flush 3 none) { frames := 3, cells := cB, slots := 16 * cB, locals := 69 } ws0 [.ref (h 0), .ref v1] cB (16 * cB) (PV (fun w2 => ∃ w1 S1 m1, ivI cA h ab ac ar S1 false w1 ∧ LR cA w1 w2 m1 ∧ Post S1 m1)) := by
  refine ConW.of (by decide) (Nat.le_of_ble_eq_true rfl) ?_
  intro p e s m args below meth c C hE hF hr hini
  have hRm : cB ≤ ({ frames := 3, cells := cB, slots := 16 * cB, locals := 69 } : Room).cells ∧ 16 * cB ≤ ({ frames := 3, cells := cB, slots := 16 * cB, locals := 69 } : Room).slots := ⟨Nat.le_refl _, Nat.le_refl _⟩
  have B22 : ∀  (n : Nat) (ws w : va_W) (S : ivS) (mu : Mu) (u : Nat) (v1 : Nat) (v2 : Int32), ivI cA h ab ac ar S false w → LR cA w ws mu → wpL_flush_L22 cB Post  n S mu u v1 v2 → Kf p l e { frames := 3, cells := cB, slots := 16 * cB, locals := 69 } s m args below meth c D (va_A ws0 s.heap.size) 3 u (16 * u) (MQ below (QC D ws0 s.heap.size (PV (fun w2 => ∃ w1 S1 m1, ivI cA h ab ac ar S1 false w1 ∧ LR cA w1 w2 m1 ∧ Post S1 m1))) args s cB (16 * cB) (va_A ws0 s.heap.size)) ws 22 [(1, .ref v1), (2, .int v2)] [] := by
    intro  n
    induction n with
    | zero =>
      intro ws w S mu u v1 v2 hI hR H
      exact H.elim
    | succ nn22 ih22 =>
      intro ws w S mu u v1 v2 hI hR H
      have H : ((6 : Int32) ≤ v2 → u ≤ cB ∧ Post S mu) ∧ (¬ (6 : Int32) ≤ v2 → ∃ n7 f7 k7, mI mu v1 = some (n7, f7) ∧ v2 = nI k7 ∧ k7 < n7 ∧ n7 ≤ 1000 ∧ ∀ mu8, mu8 = sI mu v1 (n7, upd f7 k7 (0 : Int32)) → (wpL_flush_L22 cB Post  nn22) S mu8 u v1 (v2 + (1 : Int32))) := H
      refine k_iload_n C 1 (pc := 22) dL_flush_22 rfl rfl ?_
      refine k_bipush C (pc := 23) (v := (6 : Int32)) dL_flush_23 (by decide) ?_
      refine k_icmp_ge C (pc := 25) (tgt := 38) dL_flush_25 (by decide) (fun c_25 => ?_) (fun c_25 => ?_)
      · have H := H.1 c_25
        obtain ⟨hc_, H⟩ := H
        refine k_widen (k := cB) (n := 16 * cB) hc_ (Nat.mul_le_mul_left 16 hc_) ?_
        exact k_vret C (pc := 38) hr dL_flush_38 ⟨_, S, mu, hI, hR, H⟩
      · have H := H.2 c_25
        refine k_aload_n C 0 (pc := 28) dL_flush_28 rfl rfl ?_
        refine k_iload_n C 1 (pc := 29) dL_flush_29 rfl rfl ?_
        refine k_iconst C (pc := 30) (v := (0 : Int32)) dL_flush_30 rfl ?_
        obtain ⟨n7, f7, k7, hx_, hk_, hl_, hn_, H⟩ := H
        refine k_eq (pc := 31) (st' := [.int (0 : Int32), .int (nI k7), .ref v1]) rfl rfl (by rw [hk_]) ?_
        refine l_iast C hR (pc := 31) hx_ hl_ hn_ dL_flush_31 (fun w1 hR => ?_)
        obtain ⟨mu8, hm8⟩ : ∃ m_, m_ = sI mu v1 (n7, upd f7 k7 (0 : Int32)) := ⟨_, rfl⟩
        rw [← hm8] at hR
        have H := H mu8 hm8
        refine k_iinc C (pc := 32) (k := 1) (v := v2 + (1 : Int32)) dL_flush_32 rfl rfl (Nat.lt_of_lt_of_le (Nat.lt_succ_self _) (Nat.le_of_ble_eq_true rfl)) (lv' := [(2, .int (v2 + (1 : Int32))), (1, .ref v1)]) rfl ?_
        refine k_goto C (pc := 35) (tgt := 22) dL_flush_35 (by decide) ?_
        refine k_lv (pc := 22) [1, 0] (lv' := [(1, .ref v1), (2, .int (v2 + (1 : Int32)))]) rfl ?_
        exact ih22 _ _ S mu8 u v1 (v2 + (1 : Int32)) hI hR H
  refine k_eq (ws' := ws0) (lv' := [(0, .ref (h 0)), (1, .ref v1)]) (st' := []) rfl rfl rfl ?_
  have H : ∃ n1 f1 k1, mI mu v1 = some (n1, f1) ∧ (1 : Int32) = nI k1 ∧ k1 < n1 ∧ n1 ≤ 1000 ∧ ∃ n2 f2 k2, mI mu v1 = some (n2, f2) ∧ (2 : Int32) = nI k2 ∧ k2 < n2 ∧ n2 ≤ 1000 ∧ ∃ n3 f3 k3, mI mu v1 = some (n3, f3) ∧ (3 : Int32) = nI k3 ∧ k3 < n3 ∧ n3 ≤ 1000 ∧ ∃ n4 f4 k4, mI mu v1 = some (n4, f4) ∧ (4 : Int32) = nI k4 ∧ k4 < n4 ∧ n4 ≤ 1000 ∧ ∃ n5 f5 k5, mI mu v1 = some (n5, f5) ∧ (5 : Int32) = nI k5 ∧ k5 < n5 ∧ n5 ≤ 1000 ∧ 0 ≤ cB ∧ ∀ S6, S6 = (s_append S (f1 k1) (f2 k2) (f3 k3) (f4 k4) (f5 k5)).2.2.2 → ∀ r6, r6 = (s_append S (f1 k1) (f2 k2) (f3 k3) (f4 k4) (f5 k5)).2.1 → ∃ m_, wpL_flush_L22 cB Post  m_ S6 mu 0 v1 (1 : Int32) := H
  refine k_widen (k := 0) (n := 16 * 0) (Nat.le_refl _) (Nat.le_refl _) ?_
  refine k_aload_n C 0 (pc := 0) dL_flush_0 rfl rfl ?_
  refine k_aload_n C 1 (pc := 1) dL_flush_1 rfl rfl ?_
  refine k_iconst C (pc := 2) (v := (1 : Int32)) dL_flush_2 rfl ?_
  obtain ⟨n1, f1, k1, hx_, hk_, hl_, hn_, H⟩ := H
  refine k_eq (pc := 3) (st' := [.int (nI k1), .ref v1, .ref (h 0)]) rfl rfl (by rw [hk_]) ?_
  refine l_iald C hR (pc := 3) hx_ hl_ hn_ dL_flush_3 ?_
  refine k_aload_n C 1 (pc := 4) dL_flush_4 rfl rfl ?_
  refine k_iconst C (pc := 5) (v := (2 : Int32)) dL_flush_5 rfl ?_
  obtain ⟨n2, f2, k2, hx_, hk_, hl_, hn_, H⟩ := H
  refine k_eq (pc := 6) (st' := [.int (nI k2), .ref v1, .int (f1 k1), .ref (h 0)]) rfl rfl (by rw [hk_]) ?_
  refine l_iald C hR (pc := 6) hx_ hl_ hn_ dL_flush_6 ?_
  refine k_aload_n C 1 (pc := 7) dL_flush_7 rfl rfl ?_
  refine k_iconst C (pc := 8) (v := (3 : Int32)) dL_flush_8 rfl ?_
  obtain ⟨n3, f3, k3, hx_, hk_, hl_, hn_, H⟩ := H
  refine k_eq (pc := 9) (st' := [.int (nI k3), .ref v1, .int (f2 k2), .int (f1 k1), .ref (h 0)]) rfl rfl (by rw [hk_]) ?_
  refine l_iald C hR (pc := 9) hx_ hl_ hn_ dL_flush_9 ?_
  refine k_aload_n C 1 (pc := 10) dL_flush_10 rfl rfl ?_
  refine k_iconst C (pc := 11) (v := (4 : Int32)) dL_flush_11 rfl ?_
  obtain ⟨n4, f4, k4, hx_, hk_, hl_, hn_, H⟩ := H
  refine k_eq (pc := 12) (st' := [.int (nI k4), .ref v1, .int (f3 k3), .int (f2 k2), .int (f1 k1), .ref (h 0)]) rfl rfl (by rw [hk_]) ?_
  refine l_iald C hR (pc := 12) hx_ hl_ hn_ dL_flush_12 ?_
  refine k_aload_n C 1 (pc := 13) dL_flush_13 rfl rfl ?_
  refine k_iconst C (pc := 14) (v := (5 : Int32)) dL_flush_14 rfl ?_
  obtain ⟨n5, f5, k5, hx_, hk_, hl_, hn_, H⟩ := H
  refine k_eq (pc := 15) (st' := [.int (nI k5), .ref v1, .int (f4 k4), .int (f3 k3), .int (f2 k2), .int (f1 k1), .ref (h 0)]) rfl rfl (by rw [hk_]) ?_
  refine l_iald C hR (pc := 15) hx_ hl_ hn_ dL_flush_15 ?_
  obtain ⟨hc_, H⟩ := H
  obtain ⟨l0_, e0_, hl_⟩ := hR
  obtain ⟨fs_, t_, hw_⟩ := hI.hd
  refine k_eq (pc := 16) e0_ rfl rfl ?_
  refine k_onL C (pc := 16) (k_runV C (As := [.int (f1 k1), .int (f2 k2), .int (f3 k3), .int (f4 k4), .int (f5 k5)]) (rest := []) (ci := 6) (q0 := 0) (xi_append l D cA h ab ac ar (f1 k1) (f2 k2) (f3 k3) (f4 k4) (f5 k5) hI) ⟨k_cwB C tW_5_46 tW_5_43 tW_1_1 okX6_append rfl rfl ⟨Nat.le_of_ble_eq_true rfl, Nat.le_of_ble_eq_true rfl⟩, C.w tW_5_44, C.w tW_5_45⟩ (by rw [hw_]; rfl) rfl rfl rfl rfl (Nat.le_of_ble_eq_true rfl) dL_flush_16 (kw_rm (k := 0) hc_ (by decide) hRm)) (fun v_ w1 hv_ => ?_)
  obtain ⟨r6, rfl, -, hr1_, hI⟩ := hv_
  have hI := hI.weak
  obtain ⟨S6, hS1_⟩ : ∃ m_, m_ = (s_append S (f1 k1) (f2 k2) (f3 k3) (f4 k4) (f5 k5)).2.2.2 := ⟨_, rfl⟩
  rw [← hS1_] at hI
  have H := H S6 hS1_ r6 hr1_
  have hR : LR cA w1 (w1 ++ l0_) mu := ⟨l0_, rfl, hl_⟩
  refine k_eq (pc := 19) (st' := [.int r6]) rfl rfl rfl ?_
  refine k_widen (k := 0) (n := 16 * 0) (Nat.le_refl _) (Nat.le_refl _) ?_
  refine k_pop C (pc := 19) dL_flush_19 rfl ?_
  refine k_iconst C (pc := 20) (v := (1 : Int32)) dL_flush_20 rfl ?_
  refine k_istore_n C (pc := 21) dL_flush_21 rfl (Nat.lt_of_lt_of_le (Nat.lt_succ_self _) (Nat.le_of_ble_eq_true rfl)) (lv' := [(2, .int (1 : Int32)), (0, .ref (h 0)), (1, .ref v1)]) rfl ?_
  obtain ⟨n_, H⟩ := H
  refine k_lv (pc := 22) [2, 0] (lv' := [(1, .ref v1), (2, .int (1 : Int32))]) rfl ?_
  exact B22  n_ _ _ S6 mu 0 v1 (1 : Int32) hI hR H
/-! WidowWatchLaw.put(LWidowWatch;[II)V -/
theorem dL_put_0 : decode cL_put 0 = .ok (.aload_n 1, 1) := by decide +kernel
theorem dL_put_1 : decode cL_put 1 = .ok (.iconst 1, 1) := by decide +kernel
theorem dL_put_2 : decode cL_put 2 = .ok (.aload_n 1, 1) := by decide +kernel
theorem dL_put_3 : decode cL_put 3 = .ok (.iconst 0, 1) := by decide +kernel
theorem dL_put_4 : decode cL_put 4 = .ok (.iaload, 1) := by decide +kernel
theorem dL_put_5 : decode cL_put 5 = .ok (.bipush 20, 2) := by decide +kernel
theorem dL_put_7 : decode cL_put 7 = .ok (.irem, 1) := by decide +kernel
theorem dL_put_8 : decode cL_put 8 = .ok (.iconst 4, 1) := by decide +kernel
theorem dL_put_9 : decode cL_put 9 = .ok (.idiv, 1) := by decide +kernel
theorem dL_put_10 : decode cL_put 10 = .ok (.iadd, 1) := by decide +kernel
theorem dL_put_11 : decode cL_put 11 = .ok (.dup2, 1) := by decide +kernel
theorem dL_put_12 : decode cL_put 12 = .ok (.iaload, 1) := by decide +kernel
theorem dL_put_13 : decode cL_put 13 = .ok (.iload_n 2, 1) := by decide +kernel
theorem dL_put_14 : decode cL_put 14 = .ok (.bipush 24, 2) := by decide +kernel
theorem dL_put_16 : decode cL_put 16 = .ok (.bipush 8, 2) := by decide +kernel
theorem dL_put_18 : decode cL_put 18 = .ok (.aload_n 1, 1) := by decide +kernel
theorem dL_put_19 : decode cL_put 19 = .ok (.iconst 0, 1) := by decide +kernel
theorem dL_put_20 : decode cL_put 20 = .ok (.iaload, 1) := by decide +kernel
theorem dL_put_21 : decode cL_put 21 = .ok (.iconst 4, 1) := by decide +kernel
theorem dL_put_22 : decode cL_put 22 = .ok (.irem, 1) := by decide +kernel
theorem dL_put_23 : decode cL_put 23 = .ok (.imul, 1) := by decide +kernel
theorem dL_put_24 : decode cL_put 24 = .ok (.isub, 1) := by decide +kernel
theorem dL_put_25 : decode cL_put 25 = .ok (.ishl, 1) := by decide +kernel
theorem dL_put_26 : decode cL_put 26 = .ok (.ior, 1) := by decide +kernel
theorem dL_put_27 : decode cL_put 27 = .ok (.iastore, 1) := by decide +kernel
theorem dL_put_28 : decode cL_put 28 = .ok (.aload_n 1, 1) := by decide +kernel
theorem dL_put_29 : decode cL_put 29 = .ok (.iconst 0, 1) := by decide +kernel
theorem dL_put_30 : decode cL_put 30 = .ok (.dup2, 1) := by decide +kernel
theorem dL_put_31 : decode cL_put 31 = .ok (.iaload, 1) := by decide +kernel
theorem dL_put_32 : decode cL_put 32 = .ok (.iconst 1, 1) := by decide +kernel
theorem dL_put_33 : decode cL_put 33 = .ok (.iadd, 1) := by decide +kernel
theorem dL_put_34 : decode cL_put 34 = .ok (.iastore, 1) := by decide +kernel
theorem dL_put_35 : decode cL_put 35 = .ok (.aload_n 1, 1) := by decide +kernel
theorem dL_put_36 : decode cL_put 36 = .ok (.iconst 0, 1) := by decide +kernel
theorem dL_put_37 : decode cL_put 37 = .ok (.iaload, 1) := by decide +kernel
theorem dL_put_38 : decode cL_put 38 = .ok (.bipush 20, 2) := by decide +kernel
theorem dL_put_40 : decode cL_put 40 = .ok (.irem, 1) := by decide +kernel
theorem dL_put_41 : decode cL_put 41 = .ok (.ifCond .ne 8, 3) := by decide +kernel
theorem dL_put_44 : decode cL_put 44 = .ok (.aload_n 0, 1) := by decide +kernel
theorem dL_put_45 : decode cL_put 45 = .ok (.aload_n 1, 1) := by decide +kernel
theorem dL_put_46 : decode cL_put 46 = .ok (.invokestatic 7, 3) := by decide +kernel
theorem dL_put_49 : decode cL_put 49 = .ok (.return_, 1) := by decide +kernel
theorem okL_put : okY yL_put 3 := ⟨by decide +kernel, by decide +kernel, by decide +kernel⟩
def wpL_put (cB : Nat) (S : ivS) (mu : Mu) (v1 : Nat) (v2 : Int32) (Post : ivS → Mu → Prop) : Prop := ∃ n1 f1 k1, mI mu v1 = some (n1, f1) ∧ (0 : Int32) = nI k1 ∧ k1 < n1 ∧ n1 ≤ 1000 ∧ ∃ n2 f2 k2, mI mu v1 = some (n2, f2) ∧ (1 : Int32) + (((f1 k1) - (f1 k1) / (20 : Int32) * (20 : Int32)) / (4 : Int32)) = nI k2 ∧ k2 < n2 ∧ n2 ≤ 1000 ∧ ∃ n3 f3 k3, mI mu v1 = some (n3, f3) ∧ (0 : Int32) = nI k3 ∧ k3 < n3 ∧ n3 ≤ 1000 ∧ ∃ n4 f4 k4, mI mu v1 = some (n4, f4) ∧ (1 : Int32) + (((f1 k1) - (f1 k1) / (20 : Int32) * (20 : Int32)) / (4 : Int32)) = nI k4 ∧ k4 < n4 ∧ n4 ≤ 1000 ∧ ∀ mu5, mu5 = sI mu v1 (n4, upd f4 k4 ((f2 k2) ||| (v2 <<< (((24 : Int32) - ((8 : Int32) * ((f3 k3) - (f3 k3) / (4 : Int32) * (4 : Int32)))) &&& 31)))) → ∃ n6 f6 k6, mI mu5 v1 = some (n6, f6) ∧ (0 : Int32) = nI k6 ∧ k6 < n6 ∧ n6 ≤ 1000 ∧ ∃ n7 f7 k7, mI mu5 v1 = some (n7, f7) ∧ (0 : Int32) = nI k7 ∧ k7 < n7 ∧ n7 ≤ 1000 ∧ ∀ mu8, mu8 = sI mu5 v1 (n7, upd f7 k7 ((f6 k6) + (1 : Int32))) → ∃ n9 f9 k9, mI mu8 v1 = some (n9, f9) ∧ (0 : Int32) = nI k9 ∧ k9 < n9 ∧ n9 ≤ 1000 ∧ (¬ ((f9 k9) - (f9 k9) / (20 : Int32) * (20 : Int32)) = 0 → 0 ≤ cB ∧ Post S mu8) ∧ (((f9 k9) - (f9 k9) / (20 : Int32) * (20 : Int32)) = 0 → ∃ q10, 0 + q10 ≤ cB ∧ wpL_flush q10 S mu8 v1 (fun S10 mu10 => (0 + q10) ≤ cB ∧ Post S10 mu10))
set_option maxHeartbeats 4000000 in
set_option maxRecDepth 100000 in
theorem conL_put (l : Launch) (D : va_G) (cA : Nat → ClassId) (h ab ac ar : Nat → Nat) (hst : l.stackTraces = false) (cB : Nat) (S : ivS) (mu : Mu) (v1 : Nat) (v2 : Int32) (Post : ivS → Mu → Prop)  (H : wpL_put cB S mu v1 v2 Post) {w0 ws0 : va_W} (hI : ivI cA h ab ac ar S false w0) (hR : LR cA w0 ws0 mu) : ConW l D cA yL_put (wm yL_put cL_put 3 none) { frames := 4, cells := cB, slots := 16 * cB, locals := 91 } ws0 [.ref (h 0), .ref v1, .int v2] cB (16 * cB) (PV (fun w2 => ∃ w1 S1 m1, ivI cA h ab ac ar S1 false w1 ∧ LR cA w1 w2 m1 ∧ Post S1 m1)) := by
  refine ConW.of (by decide) (Nat.le_of_ble_eq_true rfl) ?_
  intro p e s m args below meth c C hE hF hr hini
  have hRm : cB ≤ ({ frames := 4, cells := cB, slots := 16 * cB, locals := 91 } : Room).cells ∧ 16 * cB ≤ ({ frames := 4, cells := cB, slots := 16 * cB, locals := 91 } : Room).slots := ⟨Nat.le_refl _, Nat.le_refl _⟩
  refine k_eq (ws' := ws0) (lv' := [(0, .ref (h 0)), (1, .ref v1), (2, .int v2)]) (st' := []) rfl rfl rfl ?_
  have H : ∃ n1 f1 k1, mI mu v1 = some (n1, f1) ∧ (0 : Int32) = nI k1 ∧ k1 < n1 ∧ n1 ≤ 1000 ∧ ∃ n2 f2 k2, mI mu v1 = some (n2, f2) ∧ (1 : Int32) + (((f1 k1) - (f1 k1) / (20 : Int32) * (20 : Int32)) / (4 : Int32)) = nI k2 ∧ k2 < n2 ∧ n2 ≤ 1000 ∧ ∃ n3 f3 k3, mI mu v1 = some (n3, f3) ∧ (0 : Int32) = nI k3 ∧ k3 < n3 ∧ n3 ≤ 1000 ∧ ∃ n4 f4 k4, mI mu v1 = some (n4, f4) ∧ (1 : Int32) + (((f1 k1) - (f1 k1) / (20 : Int32) * (20 : Int32)) / (4 : Int32)) = nI k4 ∧ k4 < n4 ∧ n4 ≤ 1000 ∧ ∀ mu5, mu5 = sI mu v1 (n4, upd f4 k4 ((f2 k2) ||| (v2 <<< (((24 : Int32) - ((8 : Int32) * ((f3 k3) - (f3 k3) / (4 : Int32) * (4 : Int32)))) &&& 31)))) → ∃ n6 f6 k6, mI mu5 v1 = some (n6, f6) ∧ (0 : Int32) = nI k6 ∧ k6 < n6 ∧ n6 ≤ 1000 ∧ ∃ n7 f7 k7, mI mu5 v1 = some (n7, f7) ∧ (0 : Int32) = nI k7 ∧ k7 < n7 ∧ n7 ≤ 1000 ∧ ∀ mu8, mu8 = sI mu5 v1 (n7, upd f7 k7 ((f6 k6) + (1 : Int32))) → ∃ n9 f9 k9, mI mu8 v1 = some (n9, f9) ∧ (0 : Int32) = nI k9 ∧ k9 < n9 ∧ n9 ≤ 1000 ∧ (¬ ((f9 k9) - (f9 k9) / (20 : Int32) * (20 : Int32)) = 0 → 0 ≤ cB ∧ Post S mu8) ∧ (((f9 k9) - (f9 k9) / (20 : Int32) * (20 : Int32)) = 0 → ∃ q10, 0 + q10 ≤ cB ∧ wpL_flush q10 S mu8 v1 (fun S10 mu10 => (0 + q10) ≤ cB ∧ Post S10 mu10)) := H
  refine k_widen (k := 0) (n := 16 * 0) (Nat.le_refl _) (Nat.le_refl _) ?_
  refine k_aload_n C 1 (pc := 0) dL_put_0 rfl rfl ?_
  refine k_iconst C (pc := 1) (v := (1 : Int32)) dL_put_1 rfl ?_
  refine k_aload_n C 1 (pc := 2) dL_put_2 rfl rfl ?_
  refine k_iconst C (pc := 3) (v := (0 : Int32)) dL_put_3 rfl ?_
  obtain ⟨n1, f1, k1, hx_, hk_, hl_, hn_, H⟩ := H
  refine k_eq (pc := 4) (st' := [.int (nI k1), .ref v1, .int (1 : Int32), .ref v1]) rfl rfl (by rw [hk_]) ?_
  refine l_iald C hR (pc := 4) hx_ hl_ hn_ dL_put_4 ?_
  refine k_bipush C (pc := 5) (v := (20 : Int32)) dL_put_5 (by decide) ?_
  refine k_irem C (pc := 7) dL_put_7 (by decide) ?_
  refine k_iconst C (pc := 8) (v := (4 : Int32)) dL_put_8 rfl ?_
  refine l_idiv C (pc := 9) dL_put_9 (by decide) ?_
  refine k_iadd C (pc := 10) dL_put_10 ?_
  refine k_dup2 C (pc := 11) dL_put_11 rfl rfl ?_
  obtain ⟨n2, f2, k2, hx_, hk_, hl_, hn_, H⟩ := H
  refine k_eq (pc := 12) (st' := [.int (nI k2), .ref v1, .int ((1 : Int32) + (((f1 k1) - (f1 k1) / (20 : Int32) * (20 : Int32)) / (4 : Int32))), .ref v1]) rfl rfl (by rw [hk_]) ?_
  refine l_iald C hR (pc := 12) hx_ hl_ hn_ dL_put_12 ?_
  refine k_iload_n C 2 (pc := 13) dL_put_13 rfl rfl ?_
  refine k_bipush C (pc := 14) (v := (24 : Int32)) dL_put_14 (by decide) ?_
  refine k_bipush C (pc := 16) (v := (8 : Int32)) dL_put_16 (by decide) ?_
  refine k_aload_n C 1 (pc := 18) dL_put_18 rfl rfl ?_
  refine k_iconst C (pc := 19) (v := (0 : Int32)) dL_put_19 rfl ?_
  obtain ⟨n3, f3, k3, hx_, hk_, hl_, hn_, H⟩ := H
  refine k_eq (pc := 20) (st' := [.int (nI k3), .ref v1, .int (8 : Int32), .int (24 : Int32), .int v2, .int (f2 k2), .int ((1 : Int32) + (((f1 k1) - (f1 k1) / (20 : Int32) * (20 : Int32)) / (4 : Int32))), .ref v1]) rfl rfl (by rw [hk_]) ?_
  refine l_iald C hR (pc := 20) hx_ hl_ hn_ dL_put_20 ?_
  refine k_iconst C (pc := 21) (v := (4 : Int32)) dL_put_21 rfl ?_
  refine k_irem C (pc := 22) dL_put_22 (by decide) ?_
  refine k_imul C (pc := 23) dL_put_23 ?_
  refine k_isub C (pc := 24) dL_put_24 ?_
  refine k_ishl C (pc := 25) dL_put_25 ?_
  refine k_ior C (pc := 26) dL_put_26 ?_
  obtain ⟨n4, f4, k4, hx_, hk_, hl_, hn_, H⟩ := H
  refine k_eq (pc := 27) (st' := [.int ((f2 k2) ||| (v2 <<< (((24 : Int32) - ((8 : Int32) * ((f3 k3) - (f3 k3) / (4 : Int32) * (4 : Int32)))) &&& 31))), .int (nI k4), .ref v1]) rfl rfl (by rw [hk_]) ?_
  refine l_iast C hR (pc := 27) hx_ hl_ hn_ dL_put_27 (fun w1 hR => ?_)
  obtain ⟨mu5, hm5⟩ : ∃ m_, m_ = sI mu v1 (n4, upd f4 k4 ((f2 k2) ||| (v2 <<< (((24 : Int32) - ((8 : Int32) * ((f3 k3) - (f3 k3) / (4 : Int32) * (4 : Int32)))) &&& 31)))) := ⟨_, rfl⟩
  rw [← hm5] at hR
  have H := H mu5 hm5
  refine k_aload_n C 1 (pc := 28) dL_put_28 rfl rfl ?_
  refine k_iconst C (pc := 29) (v := (0 : Int32)) dL_put_29 rfl ?_
  refine k_dup2 C (pc := 30) dL_put_30 rfl rfl ?_
  obtain ⟨n6, f6, k6, hx_, hk_, hl_, hn_, H⟩ := H
  refine k_eq (pc := 31) (st' := [.int (nI k6), .ref v1, .int (0 : Int32), .ref v1]) rfl rfl (by rw [hk_]) ?_
  refine l_iald C hR (pc := 31) hx_ hl_ hn_ dL_put_31 ?_
  refine k_iconst C (pc := 32) (v := (1 : Int32)) dL_put_32 rfl ?_
  refine k_iadd C (pc := 33) dL_put_33 ?_
  obtain ⟨n7, f7, k7, hx_, hk_, hl_, hn_, H⟩ := H
  refine k_eq (pc := 34) (st' := [.int ((f6 k6) + (1 : Int32)), .int (nI k7), .ref v1]) rfl rfl (by rw [hk_]) ?_
  refine l_iast C hR (pc := 34) hx_ hl_ hn_ dL_put_34 (fun w1 hR => ?_)
  obtain ⟨mu8, hm8⟩ : ∃ m_, m_ = sI mu5 v1 (n7, upd f7 k7 ((f6 k6) + (1 : Int32))) := ⟨_, rfl⟩
  rw [← hm8] at hR
  have H := H mu8 hm8
  refine k_aload_n C 1 (pc := 35) dL_put_35 rfl rfl ?_
  refine k_iconst C (pc := 36) (v := (0 : Int32)) dL_put_36 rfl ?_
  obtain ⟨n9, f9, k9, hx_, hk_, hl_, hn_, H⟩ := H
  refine k_eq (pc := 37) (st' := [.int (nI k9), .ref v1]) rfl rfl (by rw [hk_]) ?_
  refine l_iald C hR (pc := 37) hx_ hl_ hn_ dL_put_37 ?_
  refine k_bipush C (pc := 38) (v := (20 : Int32)) dL_put_38 (by decide) ?_
  refine k_irem C (pc := 40) dL_put_40 (by decide) ?_
  refine k_if_ne C (pc := 41) (tgt := 49) dL_put_41 (by decide) (fun c_41 => ?_) (fun c_41 => ?_)
  · have H := H.1 c_41
    obtain ⟨hc_, H⟩ := H
    refine k_widen (k := cB) (n := 16 * cB) hc_ (Nat.mul_le_mul_left 16 hc_) ?_
    exact k_vret C (pc := 49) hr dL_put_49 ⟨_, S, mu8, hI, hR, H⟩
  · have H := H.2 c_41
    refine k_aload_n C 0 (pc := 44) dL_put_44 rfl rfl ?_
    refine k_aload_n C 1 (pc := 45) dL_put_45 rfl rfl ?_
    obtain ⟨q10, hc_, H⟩ := H
    refine k_callAv C (pc := 46) (kw_runS C hE hF (As := [.ref (h 0), .ref v1]) (rest := []) (conL_flush l D cA h ab ac ar hst q10 S mu8 v1 _  H hI hR) ⟨k_cwB C tW_5_42 tW_5_40 tW_1_0 okL_flush rfl rfl ⟨Nat.le_of_ble_eq_true rfl, Nat.le_of_ble_eq_true rfl⟩, C.w tW_5_41⟩ rfl rfl (Nat.le_of_ble_eq_true rfl) dL_put_46 (kw_rm hc_ (Nat.le_refl _) hRm)) (fun w1 hw_ => ?_)
    obtain ⟨w_, S10, mu10, hI, hR, H⟩ := hw_
    refine k_sl ?_
    obtain ⟨hc_, H⟩ := H
    refine k_widen (k := cB) (n := 16 * cB) hc_ (Nat.mul_le_mul_left 16 hc_) ?_
    exact k_vret C (pc := 49) hr dL_put_49 ⟨_, S10, mu10, hI, hR, H⟩
/-! WidowWatchLaw.loadText(LWidowWatch;[I)I -/
theorem dL_loadText_0 : decode cL_loadText 0 = .ok (.aload_n 1, 1) := by decide +kernel
theorem dL_loadText_1 : decode cL_loadText 1 = .ok (.iconst 0, 1) := by decide +kernel
theorem dL_loadText_2 : decode cL_loadText 2 = .ok (.iaload, 1) := by decide +kernel
theorem dL_loadText_3 : decode cL_loadText 3 = .ok (.istore_n 2, 1) := by decide +kernel
theorem dL_loadText_4 : decode cL_loadText 4 = .ok (.iload_n 2, 1) := by decide +kernel
theorem dL_loadText_5 : decode cL_loadText 5 = .ok (.bipush 20, 2) := by decide +kernel
theorem dL_loadText_7 : decode cL_loadText 7 = .ok (.irem, 1) := by decide +kernel
theorem dL_loadText_8 : decode cL_loadText 8 = .ok (.ifCond .le 8, 3) := by decide +kernel
theorem dL_loadText_11 : decode cL_loadText 11 = .ok (.aload_n 0, 1) := by decide +kernel
theorem dL_loadText_12 : decode cL_loadText 12 = .ok (.aload_n 1, 1) := by decide +kernel
theorem dL_loadText_13 : decode cL_loadText 13 = .ok (.invokestatic 7, 3) := by decide +kernel
theorem dL_loadText_16 : decode cL_loadText 16 = .ok (.aload_n 1, 1) := by decide +kernel
theorem dL_loadText_17 : decode cL_loadText 17 = .ok (.iconst 0, 1) := by decide +kernel
theorem dL_loadText_18 : decode cL_loadText 18 = .ok (.iconst 0, 1) := by decide +kernel
theorem dL_loadText_19 : decode cL_loadText 19 = .ok (.iastore, 1) := by decide +kernel
theorem dL_loadText_20 : decode cL_loadText 20 = .ok (.aload_n 0, 1) := by decide +kernel
theorem dL_loadText_21 : decode cL_loadText 21 = .ok (.iload_n 2, 1) := by decide +kernel
theorem dL_loadText_22 : decode cL_loadText 22 = .ok (.invokestatic 19, 3) := by decide +kernel
theorem dL_loadText_25 : decode cL_loadText 25 = .ok (.ireturn, 1) := by decide +kernel
theorem okL_loadText : okY yL_loadText 2 := ⟨by decide +kernel, by decide +kernel, by decide +kernel⟩
def wpL_loadText_b16 (cB : Nat) (Post : Int32 → ivS → Mu → Prop)  (S : ivS) (mu : Mu) (u : Nat) (v1 : Nat) (v2 : Int32) : Prop := ∃ n2 f2 k2, mI mu v1 = some (n2, f2) ∧ (0 : Int32) = nI k2 ∧ k2 < n2 ∧ n2 ≤ 1000 ∧ ∀ mu3, mu3 = sI mu v1 (n2, upd f2 k2 (0 : Int32)) → u + 1 ≤ cB ∧ ∀ S4, S4 = (s_load S v2).2.2.2 → ∀ r4, r4 = an1 (s_load S v2) (-2000000098) → (u + 1) ≤ cB ∧ Post r4 S4 mu3
def wpL_loadText (cB : Nat) (S : ivS) (mu : Mu) (v1 : Nat) (Post : Int32 → ivS → Mu → Prop) : Prop := ∃ n1 f1 k1, mI mu v1 = some (n1, f1) ∧ (0 : Int32) = nI k1 ∧ k1 < n1 ∧ n1 ≤ 1000 ∧ (((f1 k1) - (f1 k1) / (20 : Int32) * (20 : Int32)) ≤ 0 → wpL_loadText_b16 cB Post  S mu 0 v1 (f1 k1)) ∧ (¬ ((f1 k1) - (f1 k1) / (20 : Int32) * (20 : Int32)) ≤ 0 → ∃ q5, 0 + q5 ≤ cB ∧ wpL_flush q5 S mu v1 (fun S5 mu5 => wpL_loadText_b16 cB Post  S5 mu5 (0 + q5) v1 (f1 k1)))
set_option maxHeartbeats 4000000 in
set_option maxRecDepth 100000 in
theorem conL_loadText (l : Launch) (D : va_G) (cA : Nat → ClassId) (h ab ac ar : Nat → Nat) (hst : l.stackTraces = false) (cB : Nat) (S : ivS) (mu : Mu) (v1 : Nat) (Post : Int32 → ivS → Mu → Prop)  (H : wpL_loadText cB S mu v1 Post) {w0 ws0 : va_W} (hI : ivI cA h ab ac ar S false w0) (hR : LR cA w0 ws0 mu) : ConW l D cA yL_loadText (wm yL_loadText cL_loadText 3 (some .int)) { frames := 10, cells := cB, slots := 16 * cB, locals := 222 } ws0 [.ref (h 0), .ref v1] cB (16 * cB) (PI (fun r w2 => ∃ w1 S1 m1, ivI cA h ab ac ar S1 false w1 ∧ LR cA w1 w2 m1 ∧ Post r S1 m1)) := by
  refine ConW.of (by decide) (Nat.le_of_ble_eq_true rfl) ?_
  intro p e s m args below meth c C hE hF hr hini
  have hRm : cB ≤ ({ frames := 10, cells := cB, slots := 16 * cB, locals := 222 } : Room).cells ∧ 16 * cB ≤ ({ frames := 10, cells := cB, slots := 16 * cB, locals := 222 } : Room).slots := ⟨Nat.le_refl _, Nat.le_refl _⟩
  have B16 : ∀  (ws w : va_W) (S : ivS) (mu : Mu) (u : Nat) (v1 : Nat) (v2 : Int32), ivI cA h ab ac ar S false w → LR cA w ws mu → wpL_loadText_b16 cB Post  S mu u v1 v2 → Kf p l e { frames := 10, cells := cB, slots := 16 * cB, locals := 222 } s m args below meth c D (va_A ws0 s.heap.size) 3 u (16 * u) (MQ below (QC D ws0 s.heap.size (PI (fun r w2 => ∃ w1 S1 m1, ivI cA h ab ac ar S1 false w1 ∧ LR cA w1 w2 m1 ∧ Post r S1 m1))) args s cB (16 * cB) (va_A ws0 s.heap.size)) ws 16 [(0, .ref (h 0)), (1, .ref v1), (2, .int v2)] [] := by
    intro  ws w S mu u v1 v2 hI hR H
    have H : ∃ n2 f2 k2, mI mu v1 = some (n2, f2) ∧ (0 : Int32) = nI k2 ∧ k2 < n2 ∧ n2 ≤ 1000 ∧ ∀ mu3, mu3 = sI mu v1 (n2, upd f2 k2 (0 : Int32)) → u + 1 ≤ cB ∧ ∀ S4, S4 = (s_load S v2).2.2.2 → ∀ r4, r4 = an1 (s_load S v2) (-2000000098) → (u + 1) ≤ cB ∧ Post r4 S4 mu3 := H
    refine k_aload_n C 1 (pc := 16) dL_loadText_16 rfl rfl ?_
    refine k_iconst C (pc := 17) (v := (0 : Int32)) dL_loadText_17 rfl ?_
    refine k_iconst C (pc := 18) (v := (0 : Int32)) dL_loadText_18 rfl ?_
    obtain ⟨n2, f2, k2, hx_, hk_, hl_, hn_, H⟩ := H
    refine k_eq (pc := 19) (st' := [.int (0 : Int32), .int (nI k2), .ref v1]) rfl rfl (by rw [hk_]) ?_
    refine l_iast C hR (pc := 19) hx_ hl_ hn_ dL_loadText_19 (fun w1 hR => ?_)
    obtain ⟨mu3, hm3⟩ : ∃ m_, m_ = sI mu v1 (n2, upd f2 k2 (0 : Int32)) := ⟨_, rfl⟩
    rw [← hm3] at hR
    have H := H mu3 hm3
    refine k_aload_n C 0 (pc := 20) dL_loadText_20 rfl rfl ?_
    refine k_iload_n C 2 (pc := 21) dL_loadText_21 rfl rfl ?_
    obtain ⟨hc_, H⟩ := H
    refine ky_callA C (pc := 22) (ky_runS C hE (As := [.ref (h 0), .int v2]) (rest := []) (wl_load l D cA h ab ac ar hst v2 hI hR) (ky_cw C tYL_load tW_2_172 tW_1_0 tW_2_173 okL_load rfl rfl ⟨Nat.le_of_ble_eq_true rfl, Nat.le_of_ble_eq_true rfl⟩) rfl rfl (Nat.le_of_ble_eq_true rfl) dL_loadText_22 (kw_rm hc_ (by decide) hRm)) (fun v_ w1 hv_ => ?_)
    obtain ⟨r4, rfl, w_, hI, hR, hr1_⟩ := hv_
    have hI := hI.weak
    obtain ⟨S4, hS1_⟩ : ∃ m_, m_ = (s_load S v2).2.2.2 := ⟨_, rfl⟩
    rw [← hS1_] at hI
    have H := H S4 hS1_ r4 hr1_
    refine k_eq (pc := 25) (st' := .int r4 :: []) rfl rfl rfl ?_
    refine k_widen (k := u + 1) (n := 16 * (u + 1)) (Nat.le_refl _) (by omega) ?_
    obtain ⟨hc_, H⟩ := H
    refine k_widen (k := cB) (n := 16 * cB) hc_ (Nat.mul_le_mul_left 16 hc_) ?_
    exact k_iret C (pc := 25) hr dL_loadText_25 ⟨_, S4, mu3, hI, hR, H⟩
  refine k_eq (ws' := ws0) (lv' := [(0, .ref (h 0)), (1, .ref v1)]) (st' := []) rfl rfl rfl ?_
  have H : ∃ n1 f1 k1, mI mu v1 = some (n1, f1) ∧ (0 : Int32) = nI k1 ∧ k1 < n1 ∧ n1 ≤ 1000 ∧ (((f1 k1) - (f1 k1) / (20 : Int32) * (20 : Int32)) ≤ 0 → wpL_loadText_b16 cB Post  S mu 0 v1 (f1 k1)) ∧ (¬ ((f1 k1) - (f1 k1) / (20 : Int32) * (20 : Int32)) ≤ 0 → ∃ q5, 0 + q5 ≤ cB ∧ wpL_flush q5 S mu v1 (fun S5 mu5 => wpL_loadText_b16 cB Post  S5 mu5 (0 + q5) v1 (f1 k1))) := H
  refine k_widen (k := 0) (n := 16 * 0) (Nat.le_refl _) (Nat.le_refl _) ?_
  refine k_aload_n C 1 (pc := 0) dL_loadText_0 rfl rfl ?_
  refine k_iconst C (pc := 1) (v := (0 : Int32)) dL_loadText_1 rfl ?_
  obtain ⟨n1, f1, k1, hx_, hk_, hl_, hn_, H⟩ := H
  refine k_eq (pc := 2) (st' := [.int (nI k1), .ref v1]) rfl rfl (by rw [hk_]) ?_
  refine l_iald C hR (pc := 2) hx_ hl_ hn_ dL_loadText_2 ?_
  refine k_istore_n C (pc := 3) dL_loadText_3 rfl (Nat.lt_of_lt_of_le (Nat.lt_succ_self _) (Nat.le_of_ble_eq_true rfl)) (lv' := [(2, .int (f1 k1)), (0, .ref (h 0)), (1, .ref v1)]) rfl ?_
  refine k_iload_n C 0 (pc := 4) dL_loadText_4 rfl rfl ?_
  refine k_bipush C (pc := 5) (v := (20 : Int32)) dL_loadText_5 (by decide) ?_
  refine k_irem C (pc := 7) dL_loadText_7 (by decide) ?_
  refine k_if_le C (pc := 8) (tgt := 16) dL_loadText_8 (by decide) (fun c_8 => ?_) (fun c_8 => ?_)
  · have H := H.1 c_8
    refine k_lv (pc := 16) [1, 2, 0] (lv' := [(0, .ref (h 0)), (1, .ref v1), (2, .int (f1 k1))]) rfl ?_
    exact B16  _ _ S mu 0 v1 (f1 k1) hI hR H
  · have H := H.2 c_8
    refine k_aload_n C 1 (pc := 11) dL_loadText_11 rfl rfl ?_
    refine k_aload_n C 2 (pc := 12) dL_loadText_12 rfl rfl ?_
    obtain ⟨q5, hc_, H⟩ := H
    refine k_callAv C (pc := 13) (kw_runS C hE hF (As := [.ref (h 0), .ref v1]) (rest := []) (conL_flush l D cA h ab ac ar hst q5 S mu v1 _  H hI hR) ⟨k_cwB C tW_5_42 tW_5_40 tW_1_0 okL_flush rfl rfl ⟨Nat.le_of_ble_eq_true rfl, Nat.le_of_ble_eq_true rfl⟩, C.w tW_5_41⟩ rfl rfl (Nat.le_of_ble_eq_true rfl) dL_loadText_13 (kw_rm hc_ (Nat.le_refl _) hRm)) (fun w1 hw_ => ?_)
    obtain ⟨w_, S5, mu5, hI, hR, H⟩ := hw_
    refine k_sl ?_
    refine k_lv (pc := 16) [1, 2, 0] (lv' := [(0, .ref (h 0)), (1, .ref v1), (2, .int (f1 k1))]) rfl ?_
    exact B16  _ _ S5 mu5 (0 + q5) v1 (f1 k1) hI hR H
/-! WidowWatchLaw.write(LWidowWatch;[ILjava/lang/String;)V -/
theorem dL_write_0 : decode cL_write 0 = .ok (.iconst 0, 1) := by decide +kernel
theorem dL_write_1 : decode cL_write 1 = .ok (.istore_n 3, 1) := by decide +kernel
theorem dL_write_2 : decode cL_write 2 = .ok (.iload_n 3, 1) := by decide +kernel
theorem dL_write_3 : decode cL_write 3 = .ok (.aload_n 2, 1) := by decide +kernel
theorem dL_write_4 : decode cL_write 4 = .ok (.invokevirtual 23, 3) := by decide +kernel
theorem dL_write_7 : decode cL_write 7 = .ok (.if_icmp .ge 19, 3) := by decide +kernel
theorem dL_write_10 : decode cL_write 10 = .ok (.aload_n 0, 1) := by decide +kernel
theorem dL_write_11 : decode cL_write 11 = .ok (.aload_n 1, 1) := by decide +kernel
theorem dL_write_12 : decode cL_write 12 = .ok (.aload_n 2, 1) := by decide +kernel
theorem dL_write_13 : decode cL_write 13 = .ok (.iload_n 3, 1) := by decide +kernel
theorem dL_write_14 : decode cL_write 14 = .ok (.invokevirtual 29, 3) := by decide +kernel
theorem dL_write_17 : decode cL_write 17 = .ok (.invokestatic 33, 3) := by decide +kernel
theorem dL_write_20 : decode cL_write 20 = .ok (.iinc 3 1, 3) := by decide +kernel
theorem dL_write_23 : decode cL_write 23 = .ok (.goto (-21), 3) := by decide +kernel
theorem dL_write_26 : decode cL_write 26 = .ok (.return_, 1) := by decide +kernel
theorem okL_write : okY yL_write 3 := ⟨by decide +kernel, by decide +kernel, by decide +kernel⟩
def wpL_write_K_L2 (cB : Nat) (v2 : Nat) (Post : ivS → Mu → Prop)  : Nat → ivS → Mu → Nat → Nat → Int32 → Prop
  | 0 => fun _ _ _ _ _ => False
  | nn2 + 1 => fun S mu u v1 v3 => u ≤ cB ∧ ((nI (strL.getD v2 0)) ≤ v3 → u ≤ cB ∧ Post S mu) ∧ (¬ (nI (strL.getD v2 0)) ≤ v3 → u ≤ cB ∧ ∃ k1, v3 = nI k1 ∧ k1 < strL.getD v2 0 ∧ ∃ q2, u + q2 ≤ cB ∧ wpL_put q2 S mu v1 (chr v2 k1) (fun S2 mu2 => (wpL_write_K_L2 cB v2 Post  nn2) S2 mu2 (u + q2) v1 (v3 + (1 : Int32))))
def wpL_write_K (cB : Nat) (S : ivS) (mu : Mu) (v1 : Nat) (v2 : Nat) (Post : ivS → Mu → Prop) : Prop := ∃ m_, wpL_write_K_L2 cB v2 Post  m_ S mu 0 v1 (0 : Int32)
set_option maxHeartbeats 4000000 in
set_option maxRecDepth 100000 in
theorem conL_write_K (l : Launch) (D : va_G) (cA : Nat → ClassId) (h ab ac ar : Nat → Nat) (hst : l.stackTraces = false) (cB : Nat) (S : ivS) (mu : Mu) (v1 : Nat) (v2 : Nat) (Post : ivS → Mu → Prop) (hw2 : v2 < 10) (H : wpL_write_K cB S mu v1 v2 Post) {w0 ws0 : va_W} (hI : ivI cA h ab ac ar S false w0) (hR : LR cA w0 ws0 mu) : ConW l D cA yL_write (wm yL_write cL_write 4 none) { frames := 5, cells := cB, slots := 16 * cB, locals := 113 } ws0 [.ref (h 0), .ref v1, .ref (cA (100 + v2))] cB (16 * cB) (PV (fun w2 => ∃ w1 S1 m1, ivI cA h ab ac ar S1 false w1 ∧ LR cA w1 w2 m1 ∧ Post S1 m1)) := by
  refine ConW.of (by decide) (Nat.le_of_ble_eq_true rfl) ?_
  intro p e s m args below meth c C hE hF hr hini
  have hRm : cB ≤ ({ frames := 5, cells := cB, slots := 16 * cB, locals := 113 } : Room).cells ∧ 16 * cB ≤ ({ frames := 5, cells := cB, slots := 16 * cB, locals := 113 } : Room).slots := ⟨Nat.le_refl _, Nat.le_refl _⟩
  have B2 : ∀  (n : Nat) (ws w : va_W) (S : ivS) (mu : Mu) (u : Nat) (v1 : Nat) (v3 : Int32), ivI cA h ab ac ar S false w → LR cA w ws mu → wpL_write_K_L2 cB v2 Post  n S mu u v1 v3 → Kf p l e { frames := 5, cells := cB, slots := 16 * cB, locals := 113 } s m args below meth c D (va_A ws0 s.heap.size) 4 u (16 * u) (MQ below (QC D ws0 s.heap.size (PV (fun w2 => ∃ w1 S1 m1, ivI cA h ab ac ar S1 false w1 ∧ LR cA w1 w2 m1 ∧ Post S1 m1))) args s cB (16 * cB) (va_A ws0 s.heap.size)) ws 2 [(0, .ref (h 0)), (1, .ref v1), (2, .ref (cA (100 + v2))), (3, .int v3)] [] := by
    intro  n
    induction n with
    | zero =>
      intro ws w S mu u v1 v3 hI hR H
      exact H.elim
    | succ nn2 ih2 =>
      intro ws w S mu u v1 v3 hI hR H
      have H : u ≤ cB ∧ ((nI (strL.getD v2 0)) ≤ v3 → u ≤ cB ∧ Post S mu) ∧ (¬ (nI (strL.getD v2 0)) ≤ v3 → u ≤ cB ∧ ∃ k1, v3 = nI k1 ∧ k1 < strL.getD v2 0 ∧ ∃ q2, u + q2 ≤ cB ∧ wpL_put q2 S mu v1 (chr v2 k1) (fun S2 mu2 => (wpL_write_K_L2 cB v2 Post  nn2) S2 mu2 (u + q2) v1 (v3 + (1 : Int32)))) := H
      refine k_iload_n C 3 (pc := 2) dL_write_2 rfl rfl ?_
      refine k_aload_n C 2 (pc := 3) dL_write_3 rfl rfl ?_
      obtain ⟨hc_, H⟩ := H
      refine k_callPi C (pc := 4) [] (wc := []) rfl rfl (k_runK C (As := []) (rest := [.int v3]) hw2 (conJ0_length_8abf5 l D cA v2 hw2) ⟨k_cwB C tW_3_34 tW_5_35 tW_1_18 okJ0_length_8abf5 rfl rfl ⟨Nat.le_of_ble_eq_true rfl, Nat.le_of_ble_eq_true rfl⟩, C.w tW_3_32, C.w tW_3_33⟩ rfl rfl (Nat.le_of_ble_eq_true rfl) dL_write_4 ⟨hc_, (by show 16 * (u) + 0 ≤ 16 * cB; omega)⟩) (fun _ _ h_ => by obtain ⟨rfl, _⟩ := h_; rfl) (fun r_ w1_ hw_ => ?_)
      obtain ⟨rfl, rfl⟩ := hw_
      refine k_eq (pc := 7) setAll_nil rfl rfl ?_
      refine k_icmp_ge C (pc := 7) (tgt := 26) dL_write_7 (by decide) (fun c_7 => ?_) (fun c_7 => ?_)
      · have H := H.1 c_7
        obtain ⟨hc_, H⟩ := H
        refine k_widen (k := cB) (n := 16 * cB) hc_ (Nat.mul_le_mul_left 16 hc_) ?_
        exact k_vret C (pc := 26) hr dL_write_26 ⟨_, S, mu, hI, hR, H⟩
      · have H := H.2 c_7
        refine k_aload_n C 0 (pc := 10) dL_write_10 rfl rfl ?_
        refine k_aload_n C 1 (pc := 11) dL_write_11 rfl rfl ?_
        refine k_aload_n C 2 (pc := 12) dL_write_12 rfl rfl ?_
        refine k_iload_n C 3 (pc := 13) dL_write_13 rfl rfl ?_
        obtain ⟨hc_, H⟩ := H
        obtain ⟨k1, hk_, hl_, H⟩ := H
        refine k_eq (pc := 14) (st' := [.int (nI k1), .ref (cA (100 + v2)), .ref v1, .ref (h 0)]) rfl rfl (by rw [hk_]) ?_
        refine k_callPi C (pc := 14) [] (wc := []) rfl rfl (k_runK C (As := [.int (nI k1)]) (rest := [.ref v1, .ref (h 0)]) hw2 (conJ0_charAt_5068e l D cA v2 k1 hw2 hl_) ⟨k_cwB C tW_3_44 tW_5_36 tW_1_18 okJ0_charAt_5068e rfl rfl ⟨Nat.le_of_ble_eq_true rfl, Nat.le_of_ble_eq_true rfl⟩, C.w tW_3_42, C.w tW_3_43⟩ rfl rfl (Nat.le_of_ble_eq_true rfl) dL_write_14 ⟨hc_, (by show 16 * (u) + 0 ≤ 16 * cB; omega)⟩) (fun _ _ h_ => by obtain ⟨rfl, _⟩ := h_; rfl) (fun r_ w1_ hw_ => ?_)
        obtain ⟨rfl, rfl⟩ := hw_
        refine k_eq (pc := 17) setAll_nil rfl rfl ?_
        obtain ⟨q2, hc_, H⟩ := H
        refine k_callAv C (pc := 17) (kw_runS C hE hF (As := [.ref (h 0), .ref v1, .int (chr v2 k1)]) (rest := []) (conL_put l D cA h ab ac ar hst q2 S mu v1 (chr v2 k1) _  H hI hR) ⟨k_cwB C tW_5_39 tW_5_37 tW_1_0 okL_put rfl rfl ⟨Nat.le_of_ble_eq_true rfl, Nat.le_of_ble_eq_true rfl⟩, C.w tW_5_38⟩ rfl rfl (Nat.le_of_ble_eq_true rfl) dL_write_17 (kw_rm hc_ (Nat.le_refl _) hRm)) (fun w1 hw_ => ?_)
        obtain ⟨w_, S2, mu2, hI, hR, H⟩ := hw_
        refine k_sl ?_
        refine k_iinc C (pc := 20) (k := 3) (v := v3 + (1 : Int32)) dL_write_20 rfl rfl (Nat.lt_of_lt_of_le (Nat.lt_succ_self _) (Nat.le_of_ble_eq_true rfl)) (lv' := [(3, .int (v3 + (1 : Int32))), (0, .ref (h 0)), (1, .ref v1), (2, .ref (cA (100 + v2)))]) rfl ?_
        refine k_goto C (pc := 23) (tgt := 2) dL_write_23 (by decide) ?_
        refine k_lv (pc := 2) [1, 2, 3, 0] (lv' := [(0, .ref (h 0)), (1, .ref v1), (2, .ref (cA (100 + v2))), (3, .int (v3 + (1 : Int32)))]) rfl ?_
        exact ih2 _ _ S2 mu2 (u + q2) v1 (v3 + (1 : Int32)) hI hR H
  refine k_eq (ws' := ws0) (lv' := [(0, .ref (h 0)), (1, .ref v1), (2, .ref (cA (100 + v2)))]) (st' := []) rfl rfl rfl ?_
  have H : ∃ m_, wpL_write_K_L2 cB v2 Post  m_ S mu 0 v1 (0 : Int32) := H
  refine k_widen (k := 0) (n := 16 * 0) (Nat.le_refl _) (Nat.le_refl _) ?_
  refine k_iconst C (pc := 0) (v := (0 : Int32)) dL_write_0 rfl ?_
  refine k_istore_n C (pc := 1) dL_write_1 rfl (Nat.lt_of_lt_of_le (Nat.lt_succ_self _) (Nat.le_of_ble_eq_true rfl)) (lv' := [(3, .int (0 : Int32)), (0, .ref (h 0)), (1, .ref v1), (2, .ref (cA (100 + v2)))]) rfl ?_
  obtain ⟨n_, H⟩ := H
  refine k_lv (pc := 2) [1, 2, 3, 0] (lv' := [(0, .ref (h 0)), (1, .ref v1), (2, .ref (cA (100 + v2))), (3, .int (0 : Int32))]) rfl ?_
  exact B2  n_ _ _ S mu 0 v1 (0 : Int32) hI hR H
/-! WidowWatchLaw.write(LWidowWatch;[ILjava/lang/String;)V -/
def wpL_write_D_L2 (cB : Nat) (Post : ivS → Mu → Prop)  : Nat → ivS → Mu → Nat → Nat → Nat → Int32 → Prop
  | 0 => fun _ _ _ _ _ _ => False
  | nn2 + 1 => fun S mu u v1 v2 v3 => ∃ x1, mS mu v2 = some x1 ∧ u ≤ cB ∧ wpJ0_length_8abf5_D mu v2 (fun r2 => (r2 ≤ v3 → u ≤ cB ∧ Post S mu) ∧ (¬ r2 ≤ v3 → ∃ x3, mS mu v2 = some x3 ∧ u ≤ cB ∧ wpJ0_charAt_5068e_D mu v2 v3 (fun r4 => ∃ q5, u + q5 ≤ cB ∧ wpL_put q5 S mu v1 r4 (fun S5 mu5 => (wpL_write_D_L2 cB Post  nn2) S5 mu5 (u + q5) v1 v2 (v3 + (1 : Int32))))))
def wpL_write_D (cB : Nat) (S : ivS) (mu : Mu) (v1 : Nat) (v2 : Nat) (Post : ivS → Mu → Prop) : Prop := ∃ m_, wpL_write_D_L2 cB Post  m_ S mu 0 v1 v2 (0 : Int32)
set_option maxHeartbeats 4000000 in
set_option maxRecDepth 100000 in
theorem conL_write_D (l : Launch) (D : va_G) (cA : Nat → ClassId) (h ab ac ar : Nat → Nat) (hst : l.stackTraces = false) (cB : Nat) (S : ivS) (mu : Mu) (v1 : Nat) (v2 : Nat) (Post : ivS → Mu → Prop)  (H : wpL_write_D cB S mu v1 v2 Post) {w0 ws0 : va_W} (hI : ivI cA h ab ac ar S false w0) (hR : LR cA w0 ws0 mu) : ConW l D cA yL_write (wm yL_write cL_write 4 none) { frames := 5, cells := cB, slots := 16 * cB, locals := 113 } ws0 [.ref (h 0), .ref v1, .ref v2] cB (16 * cB) (PV (fun w2 => ∃ w1 S1 m1, ivI cA h ab ac ar S1 false w1 ∧ LR cA w1 w2 m1 ∧ Post S1 m1)) := by
  refine ConW.of (by decide) (Nat.le_of_ble_eq_true rfl) ?_
  intro p e s m args below meth c C hE hF hr hini
  have hRm : cB ≤ ({ frames := 5, cells := cB, slots := 16 * cB, locals := 113 } : Room).cells ∧ 16 * cB ≤ ({ frames := 5, cells := cB, slots := 16 * cB, locals := 113 } : Room).slots := ⟨Nat.le_refl _, Nat.le_refl _⟩
  have B2 : ∀  (n : Nat) (ws w : va_W) (S : ivS) (mu : Mu) (u : Nat) (v1 : Nat) (v2 : Nat) (v3 : Int32), ivI cA h ab ac ar S false w → LR cA w ws mu → wpL_write_D_L2 cB Post  n S mu u v1 v2 v3 → Kf p l e { frames := 5, cells := cB, slots := 16 * cB, locals := 113 } s m args below meth c D (va_A ws0 s.heap.size) 4 u (16 * u) (MQ below (QC D ws0 s.heap.size (PV (fun w2 => ∃ w1 S1 m1, ivI cA h ab ac ar S1 false w1 ∧ LR cA w1 w2 m1 ∧ Post S1 m1))) args s cB (16 * cB) (va_A ws0 s.heap.size)) ws 2 [(0, .ref (h 0)), (1, .ref v1), (2, .ref v2), (3, .int v3)] [] := by
    intro  n
    induction n with
    | zero =>
      intro ws w S mu u v1 v2 v3 hI hR H
      exact H.elim
    | succ nn2 ih2 =>
      intro ws w S mu u v1 v2 v3 hI hR H
      have H : ∃ x1, mS mu v2 = some x1 ∧ u ≤ cB ∧ wpJ0_length_8abf5_D mu v2 (fun r2 => (r2 ≤ v3 → u ≤ cB ∧ Post S mu) ∧ (¬ r2 ≤ v3 → ∃ x3, mS mu v2 = some x3 ∧ u ≤ cB ∧ wpJ0_charAt_5068e_D mu v2 v3 (fun r4 => ∃ q5, u + q5 ≤ cB ∧ wpL_put q5 S mu v1 r4 (fun S5 mu5 => (wpL_write_D_L2 cB Post  nn2) S5 mu5 (u + q5) v1 v2 (v3 + (1 : Int32)))))) := H
      refine k_iload_n C 3 (pc := 2) dL_write_2 rfl rfl ?_
      refine k_aload_n C 2 (pc := 3) dL_write_3 rfl rfl ?_
      obtain ⟨x1, hx1, H⟩ := H
      obtain ⟨i1, hi1⟩ := List.getElem?_of_mem (hR.S hx1)
      obtain ⟨hc_, H⟩ := H
      refine k_callAi C (pc := 4) (l_runV C hF (As := []) (rest := [.int v3]) (ci := 11) (q0 := i1) (conJ0_length_8abf5_D l D cA mu v2 _  H hR) ⟨k_cwB C tW_3_34 tW_5_35 tW_1_18 okJ0_length_8abf5 rfl rfl ⟨Nat.le_of_ble_eq_true rfl, Nat.le_of_ble_eq_true rfl⟩, C.w tW_3_32, C.w tW_3_33⟩ hi1 rfl rfl rfl rfl (Nat.le_of_ble_eq_true rfl) dL_write_4 ⟨hc_, (by show 16 * (u) + 0 ≤ 16 * cB; omega)⟩) (fun r2 w1 hw_ => ?_)
      obtain ⟨rfl, H⟩ := hw_
      refine k_icmp_ge C (pc := 7) (tgt := 26) dL_write_7 (by decide) (fun c_7 => ?_) (fun c_7 => ?_)
      · have H := H.1 c_7
        obtain ⟨hc_, H⟩ := H
        refine k_widen (k := cB) (n := 16 * cB) hc_ (Nat.mul_le_mul_left 16 hc_) ?_
        exact k_vret C (pc := 26) hr dL_write_26 ⟨_, S, mu, hI, hR, H⟩
      · have H := H.2 c_7
        refine k_aload_n C 0 (pc := 10) dL_write_10 rfl rfl ?_
        refine k_aload_n C 1 (pc := 11) dL_write_11 rfl rfl ?_
        refine k_aload_n C 2 (pc := 12) dL_write_12 rfl rfl ?_
        refine k_iload_n C 3 (pc := 13) dL_write_13 rfl rfl ?_
        obtain ⟨x3, hx3, H⟩ := H
        obtain ⟨i3, hi3⟩ := List.getElem?_of_mem (hR.S hx3)
        obtain ⟨hc_, H⟩ := H
        refine k_callAi C (pc := 14) (l_runV C hF (As := [.int v3]) (rest := [.ref v1, .ref (h 0)]) (ci := 11) (q0 := i3) (conJ0_charAt_5068e_D l D cA mu v2 v3 _  H hR) ⟨k_cwB C tW_3_44 tW_5_36 tW_1_18 okJ0_charAt_5068e rfl rfl ⟨Nat.le_of_ble_eq_true rfl, Nat.le_of_ble_eq_true rfl⟩, C.w tW_3_42, C.w tW_3_43⟩ hi3 rfl rfl rfl rfl (Nat.le_of_ble_eq_true rfl) dL_write_14 ⟨hc_, (by show 16 * (u) + 0 ≤ 16 * cB; omega)⟩) (fun r4 w1 hw_ => ?_)
        obtain ⟨rfl, H⟩ := hw_
        obtain ⟨q5, hc_, H⟩ := H
        refine k_callAv C (pc := 17) (kw_runS C hE hF (As := [.ref (h 0), .ref v1, .int r4]) (rest := []) (conL_put l D cA h ab ac ar hst q5 S mu v1 r4 _  H hI hR) ⟨k_cwB C tW_5_39 tW_5_37 tW_1_0 okL_put rfl rfl ⟨Nat.le_of_ble_eq_true rfl, Nat.le_of_ble_eq_true rfl⟩, C.w tW_5_38⟩ rfl rfl (Nat.le_of_ble_eq_true rfl) dL_write_17 (kw_rm hc_ (Nat.le_refl _) hRm)) (fun w1 hw_ => ?_)
        obtain ⟨w_, S5, mu5, hI, hR, H⟩ := hw_
        refine k_sl ?_
        refine k_iinc C (pc := 20) (k := 3) (v := v3 + (1 : Int32)) dL_write_20 rfl rfl (Nat.lt_of_lt_of_le (Nat.lt_succ_self _) (Nat.le_of_ble_eq_true rfl)) (lv' := [(3, .int (v3 + (1 : Int32))), (0, .ref (h 0)), (1, .ref v1), (2, .ref v2)]) rfl ?_
        refine k_goto C (pc := 23) (tgt := 2) dL_write_23 (by decide) ?_
        refine k_lv (pc := 2) [1, 2, 3, 0] (lv' := [(0, .ref (h 0)), (1, .ref v1), (2, .ref v2), (3, .int (v3 + (1 : Int32)))]) rfl ?_
        exact ih2 _ _ S5 mu5 (u + q5) v1 v2 (v3 + (1 : Int32)) hI hR H
  refine k_eq (ws' := ws0) (lv' := [(0, .ref (h 0)), (1, .ref v1), (2, .ref v2)]) (st' := []) rfl rfl rfl ?_
  have H : ∃ m_, wpL_write_D_L2 cB Post  m_ S mu 0 v1 v2 (0 : Int32) := H
  refine k_widen (k := 0) (n := 16 * 0) (Nat.le_refl _) (Nat.le_refl _) ?_
  refine k_iconst C (pc := 0) (v := (0 : Int32)) dL_write_0 rfl ?_
  refine k_istore_n C (pc := 1) dL_write_1 rfl (Nat.lt_of_lt_of_le (Nat.lt_succ_self _) (Nat.le_of_ble_eq_true rfl)) (lv' := [(3, .int (0 : Int32)), (0, .ref (h 0)), (1, .ref v1), (2, .ref v2)]) rfl ?_
  obtain ⟨n_, H⟩ := H
  refine k_lv (pc := 2) [1, 2, 3, 0] (lv' := [(0, .ref (h 0)), (1, .ref v1), (2, .ref v2), (3, .int (0 : Int32))]) rfl ?_
  exact B2  n_ _ _ S mu 0 v1 v2 (0 : Int32) hI hR H
/-! WidowWatchLaw.writeNumber(LWidowWatch;[II)V -/
theorem dL_writeNumber_0 : decode cL_writeNumber 0 = .ok (.iconst 1, 1) := by decide +kernel
theorem dL_writeNumber_1 : decode cL_writeNumber 1 = .ok (.istore_n 3, 1) := by decide +kernel
theorem dL_writeNumber_2 : decode cL_writeNumber 2 = .ok (.iload_n 3, 1) := by decide +kernel
theorem dL_writeNumber_3 : decode cL_writeNumber 3 = .ok (.iload_n 2, 1) := by decide +kernel
theorem dL_writeNumber_4 : decode cL_writeNumber 4 = .ok (.bipush 10, 2) := by decide +kernel
theorem dL_writeNumber_6 : decode cL_writeNumber 6 = .ok (.idiv, 1) := by decide +kernel
theorem dL_writeNumber_7 : decode cL_writeNumber 7 = .ok (.if_icmp .gt 11, 3) := by decide +kernel
theorem dL_writeNumber_10 : decode cL_writeNumber 10 = .ok (.iload_n 3, 1) := by decide +kernel
theorem dL_writeNumber_11 : decode cL_writeNumber 11 = .ok (.bipush 10, 2) := by decide +kernel
theorem dL_writeNumber_13 : decode cL_writeNumber 13 = .ok (.imul, 1) := by decide +kernel
theorem dL_writeNumber_14 : decode cL_writeNumber 14 = .ok (.istore_n 3, 1) := by decide +kernel
theorem dL_writeNumber_15 : decode cL_writeNumber 15 = .ok (.goto (-13), 3) := by decide +kernel
theorem dL_writeNumber_18 : decode cL_writeNumber 18 = .ok (.iload_n 3, 1) := by decide +kernel
theorem dL_writeNumber_19 : decode cL_writeNumber 19 = .ok (.ifCond .le 25, 3) := by decide +kernel
theorem dL_writeNumber_22 : decode cL_writeNumber 22 = .ok (.aload_n 0, 1) := by decide +kernel
theorem dL_writeNumber_23 : decode cL_writeNumber 23 = .ok (.aload_n 1, 1) := by decide +kernel
theorem dL_writeNumber_24 : decode cL_writeNumber 24 = .ok (.bipush 48, 2) := by decide +kernel
theorem dL_writeNumber_26 : decode cL_writeNumber 26 = .ok (.iload_n 2, 1) := by decide +kernel
theorem dL_writeNumber_27 : decode cL_writeNumber 27 = .ok (.iload_n 3, 1) := by decide +kernel
theorem dL_writeNumber_28 : decode cL_writeNumber 28 = .ok (.idiv, 1) := by decide +kernel
theorem dL_writeNumber_29 : decode cL_writeNumber 29 = .ok (.bipush 10, 2) := by decide +kernel
theorem dL_writeNumber_31 : decode cL_writeNumber 31 = .ok (.irem, 1) := by decide +kernel
theorem dL_writeNumber_32 : decode cL_writeNumber 32 = .ok (.iadd, 1) := by decide +kernel
theorem dL_writeNumber_33 : decode cL_writeNumber 33 = .ok (.invokestatic 33, 3) := by decide +kernel
theorem dL_writeNumber_36 : decode cL_writeNumber 36 = .ok (.iload_n 3, 1) := by decide +kernel
theorem dL_writeNumber_37 : decode cL_writeNumber 37 = .ok (.bipush 10, 2) := by decide +kernel
theorem dL_writeNumber_39 : decode cL_writeNumber 39 = .ok (.idiv, 1) := by decide +kernel
theorem dL_writeNumber_40 : decode cL_writeNumber 40 = .ok (.istore_n 3, 1) := by decide +kernel
theorem dL_writeNumber_41 : decode cL_writeNumber 41 = .ok (.goto (-23), 3) := by decide +kernel
theorem dL_writeNumber_44 : decode cL_writeNumber 44 = .ok (.return_, 1) := by decide +kernel
theorem okL_writeNumber : okY yL_writeNumber 3 := ⟨by decide +kernel, by decide +kernel, by decide +kernel⟩
def wpL_writeNumber_L18 (cB : Nat) (Post : ivS → Mu → Prop)  : Nat → ivS → Mu → Nat → Nat → Int32 → Int32 → Prop
  | 0 => fun _ _ _ _ _ _ => False
  | nn18 + 1 => fun S mu u v1 v2 v3 => (v3 ≤ 0 → u ≤ cB ∧ Post S mu) ∧ (¬ v3 ≤ 0 → ¬ v3 = 0 ∧ ∃ q1, u + q1 ≤ cB ∧ wpL_put q1 S mu v1 ((48 : Int32) + ((v2 / v3) - (v2 / v3) / (10 : Int32) * (10 : Int32))) (fun S1 mu1 => (wpL_writeNumber_L18 cB Post  nn18) S1 mu1 (u + q1) v1 v2 (v3 / (10 : Int32))))
def wpL_writeNumber_L2 (cB : Nat) (Post : ivS → Mu → Prop)  : Nat → ivS → Mu → Nat → Nat → Int32 → Int32 → Prop
  | 0 => fun _ _ _ _ _ _ => False
  | nn2 + 1 => fun S mu u v1 v2 v3 => ((v2 / (10 : Int32)) < v3 → ∃ m_, wpL_writeNumber_L18 cB Post  m_ S mu u v1 v2 v3) ∧ (¬ (v2 / (10 : Int32)) < v3 → (wpL_writeNumber_L2 cB Post  nn2) S mu u v1 v2 (v3 * (10 : Int32)))
def wpL_writeNumber (cB : Nat) (S : ivS) (mu : Mu) (v1 : Nat) (v2 : Int32) (Post : ivS → Mu → Prop) : Prop := ∃ m_, wpL_writeNumber_L2 cB Post  m_ S mu 0 v1 v2 (1 : Int32)
set_option maxHeartbeats 4000000 in
set_option maxRecDepth 100000 in
theorem conL_writeNumber (l : Launch) (D : va_G) (cA : Nat → ClassId) (h ab ac ar : Nat → Nat) (hst : l.stackTraces = false) (cB : Nat) (S : ivS) (mu : Mu) (v1 : Nat) (v2 : Int32) (Post : ivS → Mu → Prop)  (H : wpL_writeNumber cB S mu v1 v2 Post) {w0 ws0 : va_W} (hI : ivI cA h ab ac ar S false w0) (hR : LR cA w0 ws0 mu) : ConW l D cA yL_writeNumber (wm yL_writeNumber cL_writeNumber 4 none) { frames := 5, cells := cB, slots := 16 * cB, locals := 113 } ws0 [.ref (h 0), .ref v1, .int v2] cB (16 * cB) (PV (fun w2 => ∃ w1 S1 m1, ivI cA h ab ac ar S1 false w1 ∧ LR cA w1 w2 m1 ∧ Post S1 m1)) := by
  refine ConW.of (by decide) (Nat.le_of_ble_eq_true rfl) ?_
  intro p e s m args below meth c C hE hF hr hini
  have hRm : cB ≤ ({ frames := 5, cells := cB, slots := 16 * cB, locals := 113 } : Room).cells ∧ 16 * cB ≤ ({ frames := 5, cells := cB, slots := 16 * cB, locals := 113 } : Room).slots := ⟨Nat.le_refl _, Nat.le_refl _⟩
  have B18 : ∀  (n : Nat) (ws w : va_W) (S : ivS) (mu : Mu) (u : Nat) (v1 : Nat) (v2 : Int32) (v3 : Int32), ivI cA h ab ac ar S false w → LR cA w ws mu → wpL_writeNumber_L18 cB Post  n S mu u v1 v2 v3 → Kf p l e { frames := 5, cells := cB, slots := 16 * cB, locals := 113 } s m args below meth c D (va_A ws0 s.heap.size) 4 u (16 * u) (MQ below (QC D ws0 s.heap.size (PV (fun w2 => ∃ w1 S1 m1, ivI cA h ab ac ar S1 false w1 ∧ LR cA w1 w2 m1 ∧ Post S1 m1))) args s cB (16 * cB) (va_A ws0 s.heap.size)) ws 18 [(0, .ref (h 0)), (1, .ref v1), (2, .int v2), (3, .int v3)] [] := by
    intro  n
    induction n with
    | zero =>
      intro ws w S mu u v1 v2 v3 hI hR H
      exact H.elim
    | succ nn18 ih18 =>
      intro ws w S mu u v1 v2 v3 hI hR H
      have H : (v3 ≤ 0 → u ≤ cB ∧ Post S mu) ∧ (¬ v3 ≤ 0 → ¬ v3 = 0 ∧ ∃ q1, u + q1 ≤ cB ∧ wpL_put q1 S mu v1 ((48 : Int32) + ((v2 / v3) - (v2 / v3) / (10 : Int32) * (10 : Int32))) (fun S1 mu1 => (wpL_writeNumber_L18 cB Post  nn18) S1 mu1 (u + q1) v1 v2 (v3 / (10 : Int32)))) := H
      refine k_iload_n C 3 (pc := 18) dL_writeNumber_18 rfl rfl ?_
      refine k_if_le C (pc := 19) (tgt := 44) dL_writeNumber_19 (by decide) (fun c_19 => ?_) (fun c_19 => ?_)
      · have H := H.1 c_19
        obtain ⟨hc_, H⟩ := H
        refine k_widen (k := cB) (n := 16 * cB) hc_ (Nat.mul_le_mul_left 16 hc_) ?_
        exact k_vret C (pc := 44) hr dL_writeNumber_44 ⟨_, S, mu, hI, hR, H⟩
      · have H := H.2 c_19
        refine k_aload_n C 0 (pc := 22) dL_writeNumber_22 rfl rfl ?_
        refine k_aload_n C 1 (pc := 23) dL_writeNumber_23 rfl rfl ?_
        refine k_bipush C (pc := 24) (v := (48 : Int32)) dL_writeNumber_24 (by decide) ?_
        refine k_iload_n C 2 (pc := 26) dL_writeNumber_26 rfl rfl ?_
        refine k_iload_n C 3 (pc := 27) dL_writeNumber_27 rfl rfl ?_
        obtain ⟨hn_, H⟩ := H
        refine l_idiv C (pc := 28) dL_writeNumber_28 hn_ ?_
        refine k_bipush C (pc := 29) (v := (10 : Int32)) dL_writeNumber_29 (by decide) ?_
        refine k_irem C (pc := 31) dL_writeNumber_31 (by decide) ?_
        refine k_iadd C (pc := 32) dL_writeNumber_32 ?_
        obtain ⟨q1, hc_, H⟩ := H
        refine k_callAv C (pc := 33) (kw_runS C hE hF (As := [.ref (h 0), .ref v1, .int ((48 : Int32) + ((v2 / v3) - (v2 / v3) / (10 : Int32) * (10 : Int32)))]) (rest := []) (conL_put l D cA h ab ac ar hst q1 S mu v1 ((48 : Int32) + ((v2 / v3) - (v2 / v3) / (10 : Int32) * (10 : Int32))) _  H hI hR) ⟨k_cwB C tW_5_39 tW_5_37 tW_1_0 okL_put rfl rfl ⟨Nat.le_of_ble_eq_true rfl, Nat.le_of_ble_eq_true rfl⟩, C.w tW_5_38⟩ rfl rfl (Nat.le_of_ble_eq_true rfl) dL_writeNumber_33 (kw_rm hc_ (Nat.le_refl _) hRm)) (fun w1 hw_ => ?_)
        obtain ⟨w_, S1, mu1, hI, hR, H⟩ := hw_
        refine k_sl ?_
        refine k_iload_n C 3 (pc := 36) dL_writeNumber_36 rfl rfl ?_
        refine k_bipush C (pc := 37) (v := (10 : Int32)) dL_writeNumber_37 (by decide) ?_
        refine l_idiv C (pc := 39) dL_writeNumber_39 (by decide) ?_
        refine k_istore_n C (pc := 40) dL_writeNumber_40 rfl (Nat.lt_of_lt_of_le (Nat.lt_succ_self _) (Nat.le_of_ble_eq_true rfl)) (lv' := [(3, .int (v3 / (10 : Int32))), (0, .ref (h 0)), (1, .ref v1), (2, .int v2)]) rfl ?_
        refine k_goto C (pc := 41) (tgt := 18) dL_writeNumber_41 (by decide) ?_
        refine k_lv (pc := 18) [1, 2, 3, 0] (lv' := [(0, .ref (h 0)), (1, .ref v1), (2, .int v2), (3, .int (v3 / (10 : Int32)))]) rfl ?_
        exact ih18 _ _ S1 mu1 (u + q1) v1 v2 (v3 / (10 : Int32)) hI hR H
  have B2 : ∀  (n : Nat) (ws w : va_W) (S : ivS) (mu : Mu) (u : Nat) (v1 : Nat) (v2 : Int32) (v3 : Int32), ivI cA h ab ac ar S false w → LR cA w ws mu → wpL_writeNumber_L2 cB Post  n S mu u v1 v2 v3 → Kf p l e { frames := 5, cells := cB, slots := 16 * cB, locals := 113 } s m args below meth c D (va_A ws0 s.heap.size) 4 u (16 * u) (MQ below (QC D ws0 s.heap.size (PV (fun w2 => ∃ w1 S1 m1, ivI cA h ab ac ar S1 false w1 ∧ LR cA w1 w2 m1 ∧ Post S1 m1))) args s cB (16 * cB) (va_A ws0 s.heap.size)) ws 2 [(0, .ref (h 0)), (1, .ref v1), (2, .int v2), (3, .int v3)] [] := by
    intro  n
    induction n with
    | zero =>
      intro ws w S mu u v1 v2 v3 hI hR H
      exact H.elim
    | succ nn2 ih2 =>
      intro ws w S mu u v1 v2 v3 hI hR H
      have H : ((v2 / (10 : Int32)) < v3 → ∃ m_, wpL_writeNumber_L18 cB Post  m_ S mu u v1 v2 v3) ∧ (¬ (v2 / (10 : Int32)) < v3 → (wpL_writeNumber_L2 cB Post  nn2) S mu u v1 v2 (v3 * (10 : Int32))) := H
      refine k_iload_n C 3 (pc := 2) dL_writeNumber_2 rfl rfl ?_
      refine k_iload_n C 2 (pc := 3) dL_writeNumber_3 rfl rfl ?_
      refine k_bipush C (pc := 4) (v := (10 : Int32)) dL_writeNumber_4 (by decide) ?_
      refine l_idiv C (pc := 6) dL_writeNumber_6 (by decide) ?_
      refine k_icmp_gt C (pc := 7) (tgt := 18) dL_writeNumber_7 (by decide) (fun c_7 => ?_) (fun c_7 => ?_)
      · have H := H.1 c_7
        obtain ⟨n_, H⟩ := H
        refine k_lv (pc := 18) [0, 1, 2, 3] (lv' := [(0, .ref (h 0)), (1, .ref v1), (2, .int v2), (3, .int v3)]) rfl ?_
        exact B18  n_ _ _ S mu u v1 v2 v3 hI hR H
      · have H := H.2 c_7
        refine k_iload_n C 3 (pc := 10) dL_writeNumber_10 rfl rfl ?_
        refine k_bipush C (pc := 11) (v := (10 : Int32)) dL_writeNumber_11 (by decide) ?_
        refine k_imul C (pc := 13) dL_writeNumber_13 ?_
        refine k_istore_n C (pc := 14) dL_writeNumber_14 rfl (Nat.lt_of_lt_of_le (Nat.lt_succ_self _) (Nat.le_of_ble_eq_true rfl)) (lv' := [(3, .int (v3 * (10 : Int32))), (0, .ref (h 0)), (1, .ref v1), (2, .int v2)]) rfl ?_
        refine k_goto C (pc := 15) (tgt := 2) dL_writeNumber_15 (by decide) ?_
        refine k_lv (pc := 2) [1, 2, 3, 0] (lv' := [(0, .ref (h 0)), (1, .ref v1), (2, .int v2), (3, .int (v3 * (10 : Int32)))]) rfl ?_
        exact ih2 _ _ S mu u v1 v2 (v3 * (10 : Int32)) hI hR H
  refine k_eq (ws' := ws0) (lv' := [(0, .ref (h 0)), (1, .ref v1), (2, .int v2)]) (st' := []) rfl rfl rfl ?_
  have H : ∃ m_, wpL_writeNumber_L2 cB Post  m_ S mu 0 v1 v2 (1 : Int32) := H
  refine k_widen (k := 0) (n := 16 * 0) (Nat.le_refl _) (Nat.le_refl _) ?_
  refine k_iconst C (pc := 0) (v := (1 : Int32)) dL_writeNumber_0 rfl ?_
  refine k_istore_n C (pc := 1) dL_writeNumber_1 rfl (Nat.lt_of_lt_of_le (Nat.lt_succ_self _) (Nat.le_of_ble_eq_true rfl)) (lv' := [(3, .int (1 : Int32)), (0, .ref (h 0)), (1, .ref v1), (2, .int v2)]) rfl ?_
  obtain ⟨n_, H⟩ := H
  refine k_lv (pc := 2) [1, 2, 3, 0] (lv' := [(0, .ref (h 0)), (1, .ref v1), (2, .int v2), (3, .int (1 : Int32))]) rfl ?_
  exact B2  n_ _ _ S mu 0 v1 v2 (1 : Int32) hI hR H
/-! WidowWatchLaw.writeAll(LWidowWatch;[ILjava/lang/String;[I)V -/
theorem dL_writeAll_0 : decode cL_writeAll 0 = .ok (.aload_n 0, 1) := by decide +kernel
theorem dL_writeAll_1 : decode cL_writeAll 1 = .ok (.aload_n 1, 1) := by decide +kernel
theorem dL_writeAll_2 : decode cL_writeAll 2 = .ok (.aload_n 2, 1) := by decide +kernel
theorem dL_writeAll_3 : decode cL_writeAll 3 = .ok (.invokestatic 99, 3) := by decide +kernel
theorem dL_writeAll_6 : decode cL_writeAll 6 = .ok (.aload_n 3, 1) := by decide +kernel
theorem dL_writeAll_7 : decode cL_writeAll 7 = .ok (.astore 4, 2) := by decide +kernel
theorem dL_writeAll_9 : decode cL_writeAll 9 = .ok (.aload 4, 2) := by decide +kernel
theorem dL_writeAll_11 : decode cL_writeAll 11 = .ok (.arraylength, 1) := by decide +kernel
theorem dL_writeAll_12 : decode cL_writeAll 12 = .ok (.istore 5, 2) := by decide +kernel
theorem dL_writeAll_14 : decode cL_writeAll 14 = .ok (.iconst 0, 1) := by decide +kernel
theorem dL_writeAll_15 : decode cL_writeAll 15 = .ok (.istore 6, 2) := by decide +kernel
theorem dL_writeAll_17 : decode cL_writeAll 17 = .ok (.iload 6, 2) := by decide +kernel
theorem dL_writeAll_19 : decode cL_writeAll 19 = .ok (.iload 5, 2) := by decide +kernel
theorem dL_writeAll_21 : decode cL_writeAll 21 = .ok (.if_icmp .ge 30, 3) := by decide +kernel
theorem dL_writeAll_24 : decode cL_writeAll 24 = .ok (.aload 4, 2) := by decide +kernel
theorem dL_writeAll_26 : decode cL_writeAll 26 = .ok (.iload 6, 2) := by decide +kernel
theorem dL_writeAll_28 : decode cL_writeAll 28 = .ok (.iaload, 1) := by decide +kernel
theorem dL_writeAll_29 : decode cL_writeAll 29 = .ok (.istore 7, 2) := by decide +kernel
theorem dL_writeAll_31 : decode cL_writeAll 31 = .ok (.aload_n 0, 1) := by decide +kernel
theorem dL_writeAll_32 : decode cL_writeAll 32 = .ok (.aload_n 1, 1) := by decide +kernel
theorem dL_writeAll_33 : decode cL_writeAll 33 = .ok (.ldc 103, 2) := by decide +kernel
theorem dL_writeAll_35 : decode cL_writeAll 35 = .ok (.invokestatic 99, 3) := by decide +kernel
theorem dL_writeAll_38 : decode cL_writeAll 38 = .ok (.aload_n 0, 1) := by decide +kernel
theorem dL_writeAll_39 : decode cL_writeAll 39 = .ok (.aload_n 1, 1) := by decide +kernel
theorem dL_writeAll_40 : decode cL_writeAll 40 = .ok (.iload 7, 2) := by decide +kernel
theorem dL_writeAll_42 : decode cL_writeAll 42 = .ok (.invokestatic 105, 3) := by decide +kernel
theorem dL_writeAll_45 : decode cL_writeAll 45 = .ok (.iinc 6 1, 3) := by decide +kernel
theorem dL_writeAll_48 : decode cL_writeAll 48 = .ok (.goto (-31), 3) := by decide +kernel
theorem dL_writeAll_51 : decode cL_writeAll 51 = .ok (.aload_n 0, 1) := by decide +kernel
theorem dL_writeAll_52 : decode cL_writeAll 52 = .ok (.aload_n 1, 1) := by decide +kernel
theorem dL_writeAll_53 : decode cL_writeAll 53 = .ok (.ldc 108, 2) := by decide +kernel
theorem dL_writeAll_55 : decode cL_writeAll 55 = .ok (.invokestatic 99, 3) := by decide +kernel
theorem dL_writeAll_58 : decode cL_writeAll 58 = .ok (.return_, 1) := by decide +kernel
theorem okL_writeAll : okY yL_writeAll 4 := ⟨by decide +kernel, by decide +kernel, by decide +kernel⟩
def wpL_writeAll_K_L17 (cB : Nat) (v2 : Nat) (Post : ivS → Mu → Prop)  : Nat → ivS → Mu → Nat → Nat → Nat → Int32 → Int32 → Prop
  | 0 => fun _ _ _ _ _ _ _ => False
  | nn17 + 1 => fun S mu u v1 v4 v5 v6 => (v5 ≤ v6 → ∃ q3, u + q3 ≤ cB ∧ wpL_write_K q3 S mu v1 7 (fun S3 mu3 => (u + q3) ≤ cB ∧ Post S3 mu3)) ∧ (¬ v5 ≤ v6 → ∃ n4 f4 k4, mI mu v4 = some (n4, f4) ∧ v6 = nI k4 ∧ k4 < n4 ∧ n4 ≤ 1000 ∧ ∃ q5, u + q5 ≤ cB ∧ wpL_write_K q5 S mu v1 6 (fun S5 mu5 => ∃ q6, (u + q5) + q6 ≤ cB ∧ wpL_writeNumber q6 S5 mu5 v1 (f4 k4) (fun S6 mu6 => (wpL_writeAll_K_L17 cB v2 Post  nn17) S6 mu6 ((u + q5) + q6) v1 v4 v5 (v6 + (1 : Int32)))))
def wpL_writeAll_K (cB : Nat) (S : ivS) (mu : Mu) (v1 : Nat) (v2 : Nat) (v3 : Nat) (Post : ivS → Mu → Prop) : Prop := ∃ q1, 0 + q1 ≤ cB ∧ wpL_write_K q1 S mu v1 v2 (fun S1 mu1 => ∃ n2 f2, mI mu1 v3 = some (n2, f2) ∧ ∃ m_, wpL_writeAll_K_L17 cB v2 Post  m_ S1 mu1 (0 + q1) v1 v3 (nI n2) (0 : Int32))
set_option maxHeartbeats 4000000 in
set_option maxRecDepth 100000 in
theorem conL_writeAll_K (l : Launch) (D : va_G) (cA : Nat → ClassId) (h ab ac ar : Nat → Nat) (hst : l.stackTraces = false) (cB : Nat) (S : ivS) (mu : Mu) (v1 : Nat) (v2 : Nat) (v3 : Nat) (Post : ivS → Mu → Prop) (hw2 : v2 < 10) (H : wpL_writeAll_K cB S mu v1 v2 v3 Post) {w0 ws0 : va_W} (hI : ivI cA h ab ac ar S false w0) (hR : LR cA w0 ws0 mu) : ConW l D cA yL_writeAll (wm yL_writeAll cL_writeAll 8 none) { frames := 6, cells := cB, slots := 16 * cB, locals := 136 } ws0 [.ref (h 0), .ref v1, .ref (cA (100 + v2)), .ref v3] cB (16 * cB) (PV (fun w2 => ∃ w1 S1 m1, ivI cA h ab ac ar S1 false w1 ∧ LR cA w1 w2 m1 ∧ Post S1 m1)) := by
  refine ConW.of (by decide) (Nat.le_of_ble_eq_true rfl) ?_
  intro p e s m args below meth c C hE hF hr hini
  have hRm : cB ≤ ({ frames := 6, cells := cB, slots := 16 * cB, locals := 136 } : Room).cells ∧ 16 * cB ≤ ({ frames := 6, cells := cB, slots := 16 * cB, locals := 136 } : Room).slots := ⟨Nat.le_refl _, Nat.le_refl _⟩
  have B17 : ∀  (n : Nat) (ws w : va_W) (S : ivS) (mu : Mu) (u : Nat) (v1 : Nat) (v4 : Nat) (v5 : Int32) (v6 : Int32), ivI cA h ab ac ar S false w → LR cA w ws mu → wpL_writeAll_K_L17 cB v2 Post  n S mu u v1 v4 v5 v6 → Kf p l e { frames := 6, cells := cB, slots := 16 * cB, locals := 136 } s m args below meth c D (va_A ws0 s.heap.size) 8 u (16 * u) (MQ below (QC D ws0 s.heap.size (PV (fun w2 => ∃ w1 S1 m1, ivI cA h ab ac ar S1 false w1 ∧ LR cA w1 w2 m1 ∧ Post S1 m1))) args s cB (16 * cB) (va_A ws0 s.heap.size)) ws 17 [(0, .ref (h 0)), (1, .ref v1), (4, .ref v4), (5, .int v5), (6, .int v6)] [] := by
    intro  n
    induction n with
    | zero =>
      intro ws w S mu u v1 v4 v5 v6 hI hR H
      exact H.elim
    | succ nn17 ih17 =>
      intro ws w S mu u v1 v4 v5 v6 hI hR H
      have H : (v5 ≤ v6 → ∃ q3, u + q3 ≤ cB ∧ wpL_write_K q3 S mu v1 7 (fun S3 mu3 => (u + q3) ≤ cB ∧ Post S3 mu3)) ∧ (¬ v5 ≤ v6 → ∃ n4 f4 k4, mI mu v4 = some (n4, f4) ∧ v6 = nI k4 ∧ k4 < n4 ∧ n4 ≤ 1000 ∧ ∃ q5, u + q5 ≤ cB ∧ wpL_write_K q5 S mu v1 6 (fun S5 mu5 => ∃ q6, (u + q5) + q6 ≤ cB ∧ wpL_writeNumber q6 S5 mu5 v1 (f4 k4) (fun S6 mu6 => (wpL_writeAll_K_L17 cB v2 Post  nn17) S6 mu6 ((u + q5) + q6) v1 v4 v5 (v6 + (1 : Int32))))) := H
      refine k_iload C 4 (pc := 17) dL_writeAll_17 rfl ?_
      refine k_iload C 3 (pc := 19) dL_writeAll_19 rfl ?_
      refine k_icmp_ge C (pc := 21) (tgt := 51) dL_writeAll_21 (by decide) (fun c_21 => ?_) (fun c_21 => ?_)
      · have H := H.1 c_21
        refine k_aload_n C 0 (pc := 51) dL_writeAll_51 rfl rfl ?_
        refine k_aload_n C 1 (pc := 52) dL_writeAll_52 rfl rfl ?_
        refine k_ldcS C (pc := 53) (tx := ";") (q := cA (100 + 7)) (C.2.1.2.2.1 ("WidowWatchLaw", 108, ";", 7) (List.mem_of_getElem? (i := 12) rfl)) dL_writeAll_53 ?_
        obtain ⟨q3, hc_, H⟩ := H
        refine k_callAv C (pc := 55) (kw_runS C hE hF (As := [.ref (h 0), .ref v1, .ref (cA (100 + 7))]) (rest := []) (conL_write_K l D cA h ab ac ar hst q3 S mu v1 7 _ (show 7 < 10 from by decide) H hI hR) ⟨k_cwB C tW_5_34 tW_5_32 tW_1_0 okL_write rfl rfl ⟨Nat.le_of_ble_eq_true rfl, Nat.le_of_ble_eq_true rfl⟩, C.w tW_5_33⟩ rfl rfl (Nat.le_of_ble_eq_true rfl) dL_writeAll_55 (kw_rm hc_ (Nat.le_refl _) hRm)) (fun w1 hw_ => ?_)
        obtain ⟨w_, S3, mu3, hI, hR, H⟩ := hw_
        refine k_sl ?_
        obtain ⟨hc_, H⟩ := H
        refine k_widen (k := cB) (n := 16 * cB) hc_ (Nat.mul_le_mul_left 16 hc_) ?_
        exact k_vret C (pc := 58) hr dL_writeAll_58 ⟨_, S3, mu3, hI, hR, H⟩
      · have H := H.2 c_21
        refine k_aload C 2 (pc := 24) dL_writeAll_24 rfl ?_
        refine k_iload C 4 (pc := 26) dL_writeAll_26 rfl ?_
        obtain ⟨n4, f4, k4, hx_, hk_, hl_, hn_, H⟩ := H
        refine k_eq (pc := 28) (st' := [.int (nI k4), .ref v4]) rfl rfl (by rw [hk_]) ?_
        refine l_iald C hR (pc := 28) hx_ hl_ hn_ dL_writeAll_28 ?_
        refine k_istore C (pc := 29) dL_writeAll_29 (Nat.lt_of_lt_of_le (Nat.lt_succ_self _) (Nat.le_of_ble_eq_true rfl)) (lv' := [(7, .int (f4 k4)), (0, .ref (h 0)), (1, .ref v1), (4, .ref v4), (5, .int v5), (6, .int v6)]) rfl ?_
        refine k_aload_n C 1 (pc := 31) dL_writeAll_31 rfl rfl ?_
        refine k_aload_n C 2 (pc := 32) dL_writeAll_32 rfl rfl ?_
        refine k_ldcS C (pc := 33) (tx := " ") (q := cA (100 + 6)) (C.2.1.2.2.1 ("WidowWatchLaw", 103, " ", 6) (List.mem_of_getElem? (i := 11) rfl)) dL_writeAll_33 ?_
        obtain ⟨q5, hc_, H⟩ := H
        refine k_callAv C (pc := 35) (kw_runS C hE hF (As := [.ref (h 0), .ref v1, .ref (cA (100 + 6))]) (rest := []) (conL_write_K l D cA h ab ac ar hst q5 S mu v1 6 _ (show 6 < 10 from by decide) H hI hR) ⟨k_cwB C tW_5_34 tW_5_32 tW_1_0 okL_write rfl rfl ⟨Nat.le_of_ble_eq_true rfl, Nat.le_of_ble_eq_true rfl⟩, C.w tW_5_33⟩ rfl rfl (Nat.le_of_ble_eq_true rfl) dL_writeAll_35 (kw_rm hc_ (Nat.le_refl _) hRm)) (fun w1 hw_ => ?_)
        obtain ⟨w_, S5, mu5, hI, hR, H⟩ := hw_
        refine k_sl ?_
        refine k_aload_n C 1 (pc := 38) dL_writeAll_38 rfl rfl ?_
        refine k_aload_n C 2 (pc := 39) dL_writeAll_39 rfl rfl ?_
        refine k_iload C 0 (pc := 40) dL_writeAll_40 rfl ?_
        obtain ⟨q6, hc_, H⟩ := H
        refine k_callAv C (pc := 42) (kw_runS C hE hF (As := [.ref (h 0), .ref v1, .int (f4 k4)]) (rest := []) (conL_writeNumber l D cA h ab ac ar hst q6 S5 mu5 v1 (f4 k4) _  H hI hR) ⟨k_cwB C tW_5_55 tW_5_53 tW_1_0 okL_writeNumber rfl rfl ⟨Nat.le_of_ble_eq_true rfl, Nat.le_of_ble_eq_true rfl⟩, C.w tW_5_54⟩ rfl rfl (Nat.le_of_ble_eq_true rfl) dL_writeAll_42 (kw_rm hc_ (Nat.le_refl _) hRm)) (fun w1 hw_ => ?_)
        obtain ⟨w_, S6, mu6, hI, hR, H⟩ := hw_
        refine k_sl ?_
        refine k_iinc C (pc := 45) (k := 5) (v := v6 + (1 : Int32)) dL_writeAll_45 rfl rfl (Nat.lt_of_lt_of_le (Nat.lt_succ_self _) (Nat.le_of_ble_eq_true rfl)) (lv' := [(6, .int (v6 + (1 : Int32))), (7, .int (f4 k4)), (0, .ref (h 0)), (1, .ref v1), (4, .ref v4), (5, .int v5)]) rfl ?_
        refine k_goto C (pc := 48) (tgt := 17) dL_writeAll_48 (by decide) ?_
        refine k_lv (pc := 17) [2, 3, 4, 5, 0] (lv' := [(0, .ref (h 0)), (1, .ref v1), (4, .ref v4), (5, .int v5), (6, .int (v6 + (1 : Int32)))]) rfl ?_
        exact ih17 _ _ S6 mu6 ((u + q5) + q6) v1 v4 v5 (v6 + (1 : Int32)) hI hR H
  refine k_eq (ws' := ws0) (lv' := [(0, .ref (h 0)), (1, .ref v1), (2, .ref (cA (100 + v2))), (3, .ref v3)]) (st' := []) rfl rfl rfl ?_
  have H : ∃ q1, 0 + q1 ≤ cB ∧ wpL_write_K q1 S mu v1 v2 (fun S1 mu1 => ∃ n2 f2, mI mu1 v3 = some (n2, f2) ∧ ∃ m_, wpL_writeAll_K_L17 cB v2 Post  m_ S1 mu1 (0 + q1) v1 v3 (nI n2) (0 : Int32)) := H
  refine k_widen (k := 0) (n := 16 * 0) (Nat.le_refl _) (Nat.le_refl _) ?_
  refine k_aload_n C 0 (pc := 0) dL_writeAll_0 rfl rfl ?_
  refine k_aload_n C 1 (pc := 1) dL_writeAll_1 rfl rfl ?_
  refine k_aload_n C 2 (pc := 2) dL_writeAll_2 rfl rfl ?_
  obtain ⟨q1, hc_, H⟩ := H
  refine k_callAv C (pc := 3) (kw_runS C hE hF (As := [.ref (h 0), .ref v1, .ref (cA (100 + v2))]) (rest := []) (conL_write_K l D cA h ab ac ar hst q1 S mu v1 v2 _ hw2 H hI hR) ⟨k_cwB C tW_5_34 tW_5_32 tW_1_0 okL_write rfl rfl ⟨Nat.le_of_ble_eq_true rfl, Nat.le_of_ble_eq_true rfl⟩, C.w tW_5_33⟩ rfl rfl (Nat.le_of_ble_eq_true rfl) dL_writeAll_3 (kw_rm hc_ (Nat.le_refl _) hRm)) (fun w1 hw_ => ?_)
  obtain ⟨w_, S1, mu1, hI, hR, H⟩ := hw_
  refine k_sl ?_
  refine k_aload_n C 3 (pc := 6) dL_writeAll_6 rfl rfl ?_
  refine k_astore C (pc := 7) dL_writeAll_7 (Nat.lt_of_lt_of_le (Nat.lt_succ_self _) (Nat.le_of_ble_eq_true rfl)) (lv' := [(4, .ref v3), (0, .ref (h 0)), (1, .ref v1), (2, .ref (cA (100 + v2))), (3, .ref v3)]) rfl ?_
  refine k_aload C 0 (pc := 9) dL_writeAll_9 rfl ?_
  obtain ⟨n2, f2, hx_, H⟩ := H
  refine l_alen C hR (pc := 11) hx_ dL_writeAll_11 ?_
  refine k_istore C (pc := 12) dL_writeAll_12 (Nat.lt_of_lt_of_le (Nat.lt_succ_self _) (Nat.le_of_ble_eq_true rfl)) (lv' := [(5, .int (nI n2)), (4, .ref v3), (0, .ref (h 0)), (1, .ref v1), (2, .ref (cA (100 + v2))), (3, .ref v3)]) rfl ?_
  refine k_iconst C (pc := 14) (v := (0 : Int32)) dL_writeAll_14 rfl ?_
  refine k_istore C (pc := 15) dL_writeAll_15 (Nat.lt_of_lt_of_le (Nat.lt_succ_self _) (Nat.le_of_ble_eq_true rfl)) (lv' := [(6, .int (0 : Int32)), (5, .int (nI n2)), (4, .ref v3), (0, .ref (h 0)), (1, .ref v1), (2, .ref (cA (100 + v2))), (3, .ref v3)]) rfl ?_
  obtain ⟨n_, H⟩ := H
  refine k_lv (pc := 17) [3, 4, 2, 1, 0] (lv' := [(0, .ref (h 0)), (1, .ref v1), (4, .ref v3), (5, .int (nI n2)), (6, .int (0 : Int32))]) rfl ?_
  exact B17  n_ _ _ S1 mu1 (0 + q1) v1 v3 (nI n2) (0 : Int32) hI hR H
/-! WidowWatchLaw.writeAll(LWidowWatch;[ILjava/lang/String;[I)V -/
def wpL_writeAll_D_L17 (cB : Nat) (Post : ivS → Mu → Prop)  : Nat → ivS → Mu → Nat → Nat → Nat → Int32 → Int32 → Prop
  | 0 => fun _ _ _ _ _ _ _ => False
  | nn17 + 1 => fun S mu u v1 v4 v5 v6 => (v5 ≤ v6 → ∃ q3, u + q3 ≤ cB ∧ wpL_write_K q3 S mu v1 7 (fun S3 mu3 => (u + q3) ≤ cB ∧ Post S3 mu3)) ∧ (¬ v5 ≤ v6 → ∃ n4 f4 k4, mI mu v4 = some (n4, f4) ∧ v6 = nI k4 ∧ k4 < n4 ∧ n4 ≤ 1000 ∧ ∃ q5, u + q5 ≤ cB ∧ wpL_write_K q5 S mu v1 6 (fun S5 mu5 => ∃ q6, (u + q5) + q6 ≤ cB ∧ wpL_writeNumber q6 S5 mu5 v1 (f4 k4) (fun S6 mu6 => (wpL_writeAll_D_L17 cB Post  nn17) S6 mu6 ((u + q5) + q6) v1 v4 v5 (v6 + (1 : Int32)))))
def wpL_writeAll_D (cB : Nat) (S : ivS) (mu : Mu) (v1 : Nat) (v2 : Nat) (v3 : Nat) (Post : ivS → Mu → Prop) : Prop := ∃ q1, 0 + q1 ≤ cB ∧ wpL_write_D q1 S mu v1 v2 (fun S1 mu1 => ∃ n2 f2, mI mu1 v3 = some (n2, f2) ∧ ∃ m_, wpL_writeAll_D_L17 cB Post  m_ S1 mu1 (0 + q1) v1 v3 (nI n2) (0 : Int32))
set_option maxHeartbeats 4000000 in
set_option maxRecDepth 100000 in
theorem conL_writeAll_D (l : Launch) (D : va_G) (cA : Nat → ClassId) (h ab ac ar : Nat → Nat) (hst : l.stackTraces = false) (cB : Nat) (S : ivS) (mu : Mu) (v1 : Nat) (v2 : Nat) (v3 : Nat) (Post : ivS → Mu → Prop)  (H : wpL_writeAll_D cB S mu v1 v2 v3 Post) {w0 ws0 : va_W} (hI : ivI cA h ab ac ar S false w0) (hR : LR cA w0 ws0 mu) : ConW l D cA yL_writeAll (wm yL_writeAll cL_writeAll 8 none) { frames := 6, cells := cB, slots := 16 * cB, locals := 136 } ws0 [.ref (h 0), .ref v1, .ref v2, .ref v3] cB (16 * cB) (PV (fun w2 => ∃ w1 S1 m1, ivI cA h ab ac ar S1 false w1 ∧ LR cA w1 w2 m1 ∧ Post S1 m1)) := by
  refine ConW.of (by decide) (Nat.le_of_ble_eq_true rfl) ?_
  intro p e s m args below meth c C hE hF hr hini
  have hRm : cB ≤ ({ frames := 6, cells := cB, slots := 16 * cB, locals := 136 } : Room).cells ∧ 16 * cB ≤ ({ frames := 6, cells := cB, slots := 16 * cB, locals := 136 } : Room).slots := ⟨Nat.le_refl _, Nat.le_refl _⟩
  have B17 : ∀  (n : Nat) (ws w : va_W) (S : ivS) (mu : Mu) (u : Nat) (v1 : Nat) (v4 : Nat) (v5 : Int32) (v6 : Int32), ivI cA h ab ac ar S false w → LR cA w ws mu → wpL_writeAll_D_L17 cB Post  n S mu u v1 v4 v5 v6 → Kf p l e { frames := 6, cells := cB, slots := 16 * cB, locals := 136 } s m args below meth c D (va_A ws0 s.heap.size) 8 u (16 * u) (MQ below (QC D ws0 s.heap.size (PV (fun w2 => ∃ w1 S1 m1, ivI cA h ab ac ar S1 false w1 ∧ LR cA w1 w2 m1 ∧ Post S1 m1))) args s cB (16 * cB) (va_A ws0 s.heap.size)) ws 17 [(0, .ref (h 0)), (1, .ref v1), (4, .ref v4), (5, .int v5), (6, .int v6)] [] := by
    intro  n
    induction n with
    | zero =>
      intro ws w S mu u v1 v4 v5 v6 hI hR H
      exact H.elim
    | succ nn17 ih17 =>
      intro ws w S mu u v1 v4 v5 v6 hI hR H
      have H : (v5 ≤ v6 → ∃ q3, u + q3 ≤ cB ∧ wpL_write_K q3 S mu v1 7 (fun S3 mu3 => (u + q3) ≤ cB ∧ Post S3 mu3)) ∧ (¬ v5 ≤ v6 → ∃ n4 f4 k4, mI mu v4 = some (n4, f4) ∧ v6 = nI k4 ∧ k4 < n4 ∧ n4 ≤ 1000 ∧ ∃ q5, u + q5 ≤ cB ∧ wpL_write_K q5 S mu v1 6 (fun S5 mu5 => ∃ q6, (u + q5) + q6 ≤ cB ∧ wpL_writeNumber q6 S5 mu5 v1 (f4 k4) (fun S6 mu6 => (wpL_writeAll_D_L17 cB Post  nn17) S6 mu6 ((u + q5) + q6) v1 v4 v5 (v6 + (1 : Int32))))) := H
      refine k_iload C 4 (pc := 17) dL_writeAll_17 rfl ?_
      refine k_iload C 3 (pc := 19) dL_writeAll_19 rfl ?_
      refine k_icmp_ge C (pc := 21) (tgt := 51) dL_writeAll_21 (by decide) (fun c_21 => ?_) (fun c_21 => ?_)
      · have H := H.1 c_21
        refine k_aload_n C 0 (pc := 51) dL_writeAll_51 rfl rfl ?_
        refine k_aload_n C 1 (pc := 52) dL_writeAll_52 rfl rfl ?_
        refine k_ldcS C (pc := 53) (tx := ";") (q := cA (100 + 7)) (C.2.1.2.2.1 ("WidowWatchLaw", 108, ";", 7) (List.mem_of_getElem? (i := 12) rfl)) dL_writeAll_53 ?_
        obtain ⟨q3, hc_, H⟩ := H
        refine k_callAv C (pc := 55) (kw_runS C hE hF (As := [.ref (h 0), .ref v1, .ref (cA (100 + 7))]) (rest := []) (conL_write_K l D cA h ab ac ar hst q3 S mu v1 7 _ (show 7 < 10 from by decide) H hI hR) ⟨k_cwB C tW_5_34 tW_5_32 tW_1_0 okL_write rfl rfl ⟨Nat.le_of_ble_eq_true rfl, Nat.le_of_ble_eq_true rfl⟩, C.w tW_5_33⟩ rfl rfl (Nat.le_of_ble_eq_true rfl) dL_writeAll_55 (kw_rm hc_ (Nat.le_refl _) hRm)) (fun w1 hw_ => ?_)
        obtain ⟨w_, S3, mu3, hI, hR, H⟩ := hw_
        refine k_sl ?_
        obtain ⟨hc_, H⟩ := H
        refine k_widen (k := cB) (n := 16 * cB) hc_ (Nat.mul_le_mul_left 16 hc_) ?_
        exact k_vret C (pc := 58) hr dL_writeAll_58 ⟨_, S3, mu3, hI, hR, H⟩
      · have H := H.2 c_21
        refine k_aload C 2 (pc := 24) dL_writeAll_24 rfl ?_
        refine k_iload C 4 (pc := 26) dL_writeAll_26 rfl ?_
        obtain ⟨n4, f4, k4, hx_, hk_, hl_, hn_, H⟩ := H
        refine k_eq (pc := 28) (st' := [.int (nI k4), .ref v4]) rfl rfl (by rw [hk_]) ?_
        refine l_iald C hR (pc := 28) hx_ hl_ hn_ dL_writeAll_28 ?_
        refine k_istore C (pc := 29) dL_writeAll_29 (Nat.lt_of_lt_of_le (Nat.lt_succ_self _) (Nat.le_of_ble_eq_true rfl)) (lv' := [(7, .int (f4 k4)), (0, .ref (h 0)), (1, .ref v1), (4, .ref v4), (5, .int v5), (6, .int v6)]) rfl ?_
        refine k_aload_n C 1 (pc := 31) dL_writeAll_31 rfl rfl ?_
        refine k_aload_n C 2 (pc := 32) dL_writeAll_32 rfl rfl ?_
        refine k_ldcS C (pc := 33) (tx := " ") (q := cA (100 + 6)) (C.2.1.2.2.1 ("WidowWatchLaw", 103, " ", 6) (List.mem_of_getElem? (i := 11) rfl)) dL_writeAll_33 ?_
        obtain ⟨q5, hc_, H⟩ := H
        refine k_callAv C (pc := 35) (kw_runS C hE hF (As := [.ref (h 0), .ref v1, .ref (cA (100 + 6))]) (rest := []) (conL_write_K l D cA h ab ac ar hst q5 S mu v1 6 _ (show 6 < 10 from by decide) H hI hR) ⟨k_cwB C tW_5_34 tW_5_32 tW_1_0 okL_write rfl rfl ⟨Nat.le_of_ble_eq_true rfl, Nat.le_of_ble_eq_true rfl⟩, C.w tW_5_33⟩ rfl rfl (Nat.le_of_ble_eq_true rfl) dL_writeAll_35 (kw_rm hc_ (Nat.le_refl _) hRm)) (fun w1 hw_ => ?_)
        obtain ⟨w_, S5, mu5, hI, hR, H⟩ := hw_
        refine k_sl ?_
        refine k_aload_n C 1 (pc := 38) dL_writeAll_38 rfl rfl ?_
        refine k_aload_n C 2 (pc := 39) dL_writeAll_39 rfl rfl ?_
        refine k_iload C 0 (pc := 40) dL_writeAll_40 rfl ?_
        obtain ⟨q6, hc_, H⟩ := H
        refine k_callAv C (pc := 42) (kw_runS C hE hF (As := [.ref (h 0), .ref v1, .int (f4 k4)]) (rest := []) (conL_writeNumber l D cA h ab ac ar hst q6 S5 mu5 v1 (f4 k4) _  H hI hR) ⟨k_cwB C tW_5_55 tW_5_53 tW_1_0 okL_writeNumber rfl rfl ⟨Nat.le_of_ble_eq_true rfl, Nat.le_of_ble_eq_true rfl⟩, C.w tW_5_54⟩ rfl rfl (Nat.le_of_ble_eq_true rfl) dL_writeAll_42 (kw_rm hc_ (Nat.le_refl _) hRm)) (fun w1 hw_ => ?_)
        obtain ⟨w_, S6, mu6, hI, hR, H⟩ := hw_
        refine k_sl ?_
        refine k_iinc C (pc := 45) (k := 5) (v := v6 + (1 : Int32)) dL_writeAll_45 rfl rfl (Nat.lt_of_lt_of_le (Nat.lt_succ_self _) (Nat.le_of_ble_eq_true rfl)) (lv' := [(6, .int (v6 + (1 : Int32))), (7, .int (f4 k4)), (0, .ref (h 0)), (1, .ref v1), (4, .ref v4), (5, .int v5)]) rfl ?_
        refine k_goto C (pc := 48) (tgt := 17) dL_writeAll_48 (by decide) ?_
        refine k_lv (pc := 17) [2, 3, 4, 5, 0] (lv' := [(0, .ref (h 0)), (1, .ref v1), (4, .ref v4), (5, .int v5), (6, .int (v6 + (1 : Int32)))]) rfl ?_
        exact ih17 _ _ S6 mu6 ((u + q5) + q6) v1 v4 v5 (v6 + (1 : Int32)) hI hR H
  refine k_eq (ws' := ws0) (lv' := [(0, .ref (h 0)), (1, .ref v1), (2, .ref v2), (3, .ref v3)]) (st' := []) rfl rfl rfl ?_
  have H : ∃ q1, 0 + q1 ≤ cB ∧ wpL_write_D q1 S mu v1 v2 (fun S1 mu1 => ∃ n2 f2, mI mu1 v3 = some (n2, f2) ∧ ∃ m_, wpL_writeAll_D_L17 cB Post  m_ S1 mu1 (0 + q1) v1 v3 (nI n2) (0 : Int32)) := H
  refine k_widen (k := 0) (n := 16 * 0) (Nat.le_refl _) (Nat.le_refl _) ?_
  refine k_aload_n C 0 (pc := 0) dL_writeAll_0 rfl rfl ?_
  refine k_aload_n C 1 (pc := 1) dL_writeAll_1 rfl rfl ?_
  refine k_aload_n C 2 (pc := 2) dL_writeAll_2 rfl rfl ?_
  obtain ⟨q1, hc_, H⟩ := H
  refine k_callAv C (pc := 3) (kw_runS C hE hF (As := [.ref (h 0), .ref v1, .ref v2]) (rest := []) (conL_write_D l D cA h ab ac ar hst q1 S mu v1 v2 _  H hI hR) ⟨k_cwB C tW_5_34 tW_5_32 tW_1_0 okL_write rfl rfl ⟨Nat.le_of_ble_eq_true rfl, Nat.le_of_ble_eq_true rfl⟩, C.w tW_5_33⟩ rfl rfl (Nat.le_of_ble_eq_true rfl) dL_writeAll_3 (kw_rm hc_ (Nat.le_refl _) hRm)) (fun w1 hw_ => ?_)
  obtain ⟨w_, S1, mu1, hI, hR, H⟩ := hw_
  refine k_sl ?_
  refine k_aload_n C 3 (pc := 6) dL_writeAll_6 rfl rfl ?_
  refine k_astore C (pc := 7) dL_writeAll_7 (Nat.lt_of_lt_of_le (Nat.lt_succ_self _) (Nat.le_of_ble_eq_true rfl)) (lv' := [(4, .ref v3), (0, .ref (h 0)), (1, .ref v1), (2, .ref v2), (3, .ref v3)]) rfl ?_
  refine k_aload C 0 (pc := 9) dL_writeAll_9 rfl ?_
  obtain ⟨n2, f2, hx_, H⟩ := H
  refine l_alen C hR (pc := 11) hx_ dL_writeAll_11 ?_
  refine k_istore C (pc := 12) dL_writeAll_12 (Nat.lt_of_lt_of_le (Nat.lt_succ_self _) (Nat.le_of_ble_eq_true rfl)) (lv' := [(5, .int (nI n2)), (4, .ref v3), (0, .ref (h 0)), (1, .ref v1), (2, .ref v2), (3, .ref v3)]) rfl ?_
  refine k_iconst C (pc := 14) (v := (0 : Int32)) dL_writeAll_14 rfl ?_
  refine k_istore C (pc := 15) dL_writeAll_15 (Nat.lt_of_lt_of_le (Nat.lt_succ_self _) (Nat.le_of_ble_eq_true rfl)) (lv' := [(6, .int (0 : Int32)), (5, .int (nI n2)), (4, .ref v3), (0, .ref (h 0)), (1, .ref v1), (2, .ref v2), (3, .ref v3)]) rfl ?_
  obtain ⟨n_, H⟩ := H
  refine k_lv (pc := 17) [3, 4, 2, 1, 0] (lv' := [(0, .ref (h 0)), (1, .ref v1), (4, .ref v3), (5, .int (nI n2)), (6, .int (0 : Int32))]) rfl ?_
  exact B17  n_ _ _ S1 mu1 (0 + q1) v1 v3 (nI n2) (0 : Int32) hI hR H
