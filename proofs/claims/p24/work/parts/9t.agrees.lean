/-! WidowWatchLaw.agrees(LWidowWatch;LWidowWatchLaw$Book;)Z -/
theorem dL_agrees_0 : decode cL_agrees 0 = .ok (.aload_n 0, 1) := by decide +kernel
theorem dL_agrees_1 : decode cL_agrees 1 = .ok (.invokevirtual 186, 3) := by decide +kernel
theorem dL_agrees_4 : decode cL_agrees 4 = .ok (.aload_n 1, 1) := by decide +kernel
theorem dL_agrees_5 : decode cL_agrees 5 = .ok (.invokevirtual 190, 3) := by decide +kernel
theorem dL_agrees_8 : decode cL_agrees 8 = .ok (.lcmp, 1) := by decide +kernel
theorem dL_agrees_9 : decode cL_agrees 9 = .ok (.ifCond .ne 45, 3) := by decide +kernel
theorem dL_agrees_12 : decode cL_agrees 12 = .ok (.aload_n 0, 1) := by decide +kernel
theorem dL_agrees_13 : decode cL_agrees 13 = .ok (.bipush 13, 2) := by decide +kernel
theorem dL_agrees_15 : decode cL_agrees 15 = .ok (.invokestatic 191, 3) := by decide +kernel
theorem dL_agrees_18 : decode cL_agrees 18 = .ok (.ldc 42, 2) := by decide +kernel
theorem dL_agrees_20 : decode cL_agrees 20 = .ok (.if_icmp .ne 34, 3) := by decide +kernel
theorem dL_agrees_23 : decode cL_agrees 23 = .ok (.aload_n 0, 1) := by decide +kernel
theorem dL_agrees_24 : decode cL_agrees 24 = .ok (.aload_n 1, 1) := by decide +kernel
theorem dL_agrees_25 : decode cL_agrees 25 = .ok (.getfield 193, 3) := by decide +kernel
theorem dL_agrees_28 : decode cL_agrees 28 = .ok (.arraylength, 1) := by decide +kernel
theorem dL_agrees_29 : decode cL_agrees 29 = .ok (.iconst 0, 1) := by decide +kernel
theorem dL_agrees_30 : decode cL_agrees 30 = .ok (.invokestatic 197, 3) := by decide +kernel
theorem dL_agrees_33 : decode cL_agrees 33 = .ok (.ldc 52, 2) := by decide +kernel
theorem dL_agrees_35 : decode cL_agrees 35 = .ok (.if_icmp .ne 19, 3) := by decide +kernel
theorem dL_agrees_38 : decode cL_agrees 38 = .ok (.aload_n 0, 1) := by decide +kernel
theorem dL_agrees_39 : decode cL_agrees 39 = .ok (.iconst 1, 1) := by decide +kernel
theorem dL_agrees_40 : decode cL_agrees 40 = .ok (.bipush 7, 2) := by decide +kernel
theorem dL_agrees_42 : decode cL_agrees 42 = .ok (.invokestatic 200, 3) := by decide +kernel
theorem dL_agrees_45 : decode cL_agrees 45 = .ok (.ldc 42, 2) := by decide +kernel
theorem dL_agrees_47 : decode cL_agrees 47 = .ok (.if_icmp .ne 7, 3) := by decide +kernel
theorem dL_agrees_50 : decode cL_agrees 50 = .ok (.iconst 1, 1) := by decide +kernel
theorem dL_agrees_51 : decode cL_agrees 51 = .ok (.goto 4, 3) := by decide +kernel
theorem dL_agrees_54 : decode cL_agrees 54 = .ok (.iconst 0, 1) := by decide +kernel
theorem dL_agrees_55 : decode cL_agrees 55 = .ok (.istore_n 2, 1) := by decide +kernel
theorem dL_agrees_56 : decode cL_agrees 56 = .ok (.iconst 0, 1) := by decide +kernel
theorem dL_agrees_57 : decode cL_agrees 57 = .ok (.istore_n 3, 1) := by decide +kernel
theorem dL_agrees_58 : decode cL_agrees 58 = .ok (.iload_n 3, 1) := by decide +kernel
theorem dL_agrees_59 : decode cL_agrees 59 = .ok (.bipush 13, 2) := by decide +kernel
theorem dL_agrees_61 : decode cL_agrees 61 = .ok (.if_icmp .ge 32, 3) := by decide +kernel
theorem dL_agrees_64 : decode cL_agrees 64 = .ok (.iload_n 2, 1) := by decide +kernel
theorem dL_agrees_65 : decode cL_agrees 65 = .ok (.ifCond .eq 28, 3) := by decide +kernel
theorem dL_agrees_68 : decode cL_agrees 68 = .ok (.aload_n 0, 1) := by decide +kernel
theorem dL_agrees_69 : decode cL_agrees 69 = .ok (.iload_n 3, 1) := by decide +kernel
theorem dL_agrees_70 : decode cL_agrees 70 = .ok (.invokestatic 191, 3) := by decide +kernel
theorem dL_agrees_73 : decode cL_agrees 73 = .ok (.aload_n 1, 1) := by decide +kernel
theorem dL_agrees_74 : decode cL_agrees 74 = .ok (.iload_n 3, 1) := by decide +kernel
theorem dL_agrees_75 : decode cL_agrees 75 = .ok (.invokevirtual 203, 3) := by decide +kernel
theorem dL_agrees_78 : decode cL_agrees 78 = .ok (.if_icmp .ne 7, 3) := by decide +kernel
theorem dL_agrees_81 : decode cL_agrees 81 = .ok (.iconst 1, 1) := by decide +kernel
theorem dL_agrees_82 : decode cL_agrees 82 = .ok (.goto 4, 3) := by decide +kernel
theorem dL_agrees_85 : decode cL_agrees 85 = .ok (.iconst 0, 1) := by decide +kernel
theorem dL_agrees_86 : decode cL_agrees 86 = .ok (.istore_n 2, 1) := by decide +kernel
theorem dL_agrees_87 : decode cL_agrees 87 = .ok (.iinc 3 1, 3) := by decide +kernel
theorem dL_agrees_90 : decode cL_agrees 90 = .ok (.goto (-32), 3) := by decide +kernel
theorem dL_agrees_93 : decode cL_agrees 93 = .ok (.iload_n 2, 1) := by decide +kernel
theorem dL_agrees_94 : decode cL_agrees 94 = .ok (.ireturn, 1) := by decide +kernel
theorem okL_agrees : okY yL_agrees 2 := ⟨by decide +kernel, by decide +kernel, by decide +kernel⟩
def wpL_agrees_b86 (cB : Nat) (Post : Int32 → ivS → Mu → Prop) (K58 : ivS → Mu → Nat → Nat → Int32 → Int32 → Prop) (S : ivS) (mu : Mu) (u : Nat) (v1 : Nat) (v3 : Int32) (s0 : Int32) : Prop := K58 S mu u v1 s0 (v3 + (1 : Int32))
def wpL_agrees_L58 (cB : Nat) (Post : Int32 → ivS → Mu → Prop)  : Nat → ivS → Mu → Nat → Nat → Int32 → Int32 → Prop
  | 0 => fun _ _ _ _ _ _ => False
  | nn58 + 1 => fun S mu u v1 v2 v3 => ((13 : Int32) ≤ v3 → u ≤ cB ∧ (v2 = 0 ∨ v2 = 1) ∧ Post v2 S mu) ∧ (¬ (13 : Int32) ≤ v3 → (v2 = 0 → u ≤ cB ∧ (v2 = 0 ∨ v2 = 1) ∧ Post v2 S mu) ∧ (¬ v2 = 0 → u + 1 ≤ cB ∧ ∀ S6, S6 = (s_state S v3).2.2.2 → ∀ r6, r6 = an1 (s_state S v3) (-2000000098) → ∃ x7, mB mu v1 = some x7 ∧ (u + 1) ≤ cB ∧ wpX7_told mu v1 v3 (fun r8 => (¬ r6 = r8 → wpL_agrees_b86 cB Post (wpL_agrees_L58 cB Post  nn58) S6 mu (u + 1) v1 v3 (0 : Int32)) ∧ (r6 = r8 → wpL_agrees_b86 cB Post (wpL_agrees_L58 cB Post  nn58) S6 mu (u + 1) v1 v3 (1 : Int32)))))
def wpL_agrees_b55 (cB : Nat) (Post : Int32 → ivS → Mu → Prop)  (S : ivS) (mu : Mu) (u : Nat) (v1 : Nat) (s0 : Int32) : Prop := ∃ m_, wpL_agrees_L58 cB Post  m_ S mu u v1 s0 (0 : Int32)
def wpL_agrees_b54 (cB : Nat) (Post : Int32 → ivS → Mu → Prop)  (S : ivS) (mu : Mu) (u : Nat) (v1 : Nat) : Prop := wpL_agrees_b55 cB Post  S mu u v1 (0 : Int32)
def wpL_agrees (cB : Nat) (S : ivS) (mu : Mu) (v1 : Nat) (Post : Int32 → ivS → Mu → Prop) : Prop := 0 ≤ cB ∧ ∀ r1, r1 = ckA (S).1 → ∃ x2, mB mu v1 = some x2 ∧ ∃ q4, 0 + q4 ≤ cB ∧ wpX7_checksum q4 mu v1 (fun r3 mu5 => (¬ (lg_cmp r1 r3) = 0 → wpL_agrees_b54 cB Post  S mu5 (0 + q4) v1) ∧ ((lg_cmp r1 r3) = 0 → (0 + q4) + 1 ≤ cB ∧ ∀ S9, S9 = (s_state S (13 : Int32)).2.2.2 → ∀ r9, r9 = an1 (s_state S (13 : Int32)) (-2000000098) → (¬ r9 = (-2000000098 : Int32) → wpL_agrees_b54 cB Post  S9 mu5 ((0 + q4) + 1) v1) ∧ (r9 = (-2000000098 : Int32) → ∃ x10, mB mu5 v1 = some x10 ∧ ∃ a10, x10.2.2.2.2.2.1 = some a10 ∧ ∃ n11 f11, mQ mu5 a10 = some (2, n11, f11) ∧ ((0 + q4) + 1) + 2 ≤ cB ∧ ∀ S12, S12 = (s_paragraph S9 (nI n11) (0 : Int32)).2.2.2 → ∀ r12, r12 = an2 (s_paragraph S9 (nI n11) (0 : Int32)) (-2000000097) (-2000000098) → (¬ r12 = (-2000000097 : Int32) → wpL_agrees_b54 cB Post  S12 mu5 (((0 + q4) + 1) + 2) v1) ∧ (r12 = (-2000000097 : Int32) → (((0 + q4) + 1) + 2) + 1 ≤ cB ∧ ∀ S13, S13 = (s_plan S12 true (7 : Int32)).2.2.2 → ∀ r13, r13 = an1 (s_plan S12 true (7 : Int32)) (-2000000098) → (¬ r13 = (-2000000098 : Int32) → wpL_agrees_b54 cB Post  S13 mu5 ((((0 + q4) + 1) + 2) + 1) v1) ∧ (r13 = (-2000000098 : Int32) → wpL_agrees_b55 cB Post  S13 mu5 ((((0 + q4) + 1) + 2) + 1) v1 (1 : Int32))))))
set_option maxHeartbeats 4000000 in
set_option maxRecDepth 100000 in
theorem conL_agrees (l : Launch) (D : va_G) (cA : Nat → ClassId) (h ab ac ar : Nat → Nat) (hst : l.stackTraces = false) (cB : Nat) (S : ivS) (mu : Mu) (v1 : Nat) (Post : Int32 → ivS → Mu → Prop)  (H : wpL_agrees cB S mu v1 Post) {w0 ws0 : va_W} (hI : ivI cA h ab ac ar S false w0) (hR : LR cA w0 ws0 mu) : ConW l D cA yL_agrees (wm yL_agrees cL_agrees 4 (some .boolean)) { frames := 100, cells := cB, slots := 16 * cB, locals := 2014 } ws0 [.ref (h 0), .ref v1] cB (16 * cB) (PI (fun r w2 => ∃ w1 S1 m1, ivI cA h ab ac ar S1 false w1 ∧ LR cA w1 w2 m1 ∧ Post r S1 m1)) := by
  refine ConW.of (by decide) (Nat.le_of_ble_eq_true rfl) ?_
  intro p e s m args below meth c C hE hF hr hini
  have hRm : cB ≤ ({ frames := 100, cells := cB, slots := 16 * cB, locals := 2014 } : Room).cells ∧ 16 * cB ≤ ({ frames := 100, cells := cB, slots := 16 * cB, locals := 2014 } : Room).slots := ⟨Nat.le_refl _, Nat.le_refl _⟩
  have B86 : ∀ (K58 : ivS → Mu → Nat → Nat → Int32 → Int32 → Prop) (hK58 : ∀ (ws w : va_W) (S : ivS) (mu : Mu) (u : Nat) (v1 : Nat) (v2 : Int32) (v3 : Int32), ivI cA h ab ac ar S false w → LR cA w ws mu → K58 S mu u v1 v2 v3 → Kf p l e { frames := 100, cells := cB, slots := 16 * cB, locals := 2014 } s m args below meth c D (va_A ws0 s.heap.size) 4 u (16 * u) (MQ below (QC D ws0 s.heap.size (PI (fun r w2 => ∃ w1 S1 m1, ivI cA h ab ac ar S1 false w1 ∧ LR cA w1 w2 m1 ∧ Post r S1 m1))) args s cB (16 * cB) (va_A ws0 s.heap.size)) ws 58 [(0, .ref (h 0)), (1, .ref v1), (2, .int v2), (3, .int v3)] []) (ws w : va_W) (S : ivS) (mu : Mu) (u : Nat) (v1 : Nat) (v3 : Int32) (s0 : Int32), ivI cA h ab ac ar S false w → LR cA w ws mu → wpL_agrees_b86 cB Post K58 S mu u v1 v3 s0 → Kf p l e { frames := 100, cells := cB, slots := 16 * cB, locals := 2014 } s m args below meth c D (va_A ws0 s.heap.size) 4 u (16 * u) (MQ below (QC D ws0 s.heap.size (PI (fun r w2 => ∃ w1 S1 m1, ivI cA h ab ac ar S1 false w1 ∧ LR cA w1 w2 m1 ∧ Post r S1 m1))) args s cB (16 * cB) (va_A ws0 s.heap.size)) ws 86 [(0, .ref (h 0)), (1, .ref v1), (3, .int v3)] [.int s0] := by
    intro K58 hK58 ws w S mu u v1 v3 s0 hI hR H
    have H : K58 S mu u v1 s0 (v3 + (1 : Int32)) := H
    refine k_istore_n C (pc := 86) dL_agrees_86 rfl (Nat.lt_of_lt_of_le (Nat.lt_succ_self _) (Nat.le_of_ble_eq_true rfl)) (lv' := [(2, .int s0), (0, .ref (h 0)), (1, .ref v1), (3, .int v3)]) rfl ?_
    refine k_iinc C (pc := 87) (k := 3) (v := v3 + (1 : Int32)) dL_agrees_87 rfl rfl (Nat.lt_of_lt_of_le (Nat.lt_succ_self _) (Nat.le_of_ble_eq_true rfl)) (lv' := [(3, .int (v3 + (1 : Int32))), (2, .int s0), (0, .ref (h 0)), (1, .ref v1)]) rfl ?_
    refine k_goto C (pc := 90) (tgt := 58) dL_agrees_90 (by decide) ?_
    refine k_lv (pc := 58) [2, 3, 1, 0] (lv' := [(0, .ref (h 0)), (1, .ref v1), (2, .int s0), (3, .int (v3 + (1 : Int32)))]) rfl ?_
    exact hK58 _ _ S mu u v1 s0 (v3 + (1 : Int32)) hI hR H
  have B58 : ∀  (n : Nat) (ws w : va_W) (S : ivS) (mu : Mu) (u : Nat) (v1 : Nat) (v2 : Int32) (v3 : Int32), ivI cA h ab ac ar S false w → LR cA w ws mu → wpL_agrees_L58 cB Post  n S mu u v1 v2 v3 → Kf p l e { frames := 100, cells := cB, slots := 16 * cB, locals := 2014 } s m args below meth c D (va_A ws0 s.heap.size) 4 u (16 * u) (MQ below (QC D ws0 s.heap.size (PI (fun r w2 => ∃ w1 S1 m1, ivI cA h ab ac ar S1 false w1 ∧ LR cA w1 w2 m1 ∧ Post r S1 m1))) args s cB (16 * cB) (va_A ws0 s.heap.size)) ws 58 [(0, .ref (h 0)), (1, .ref v1), (2, .int v2), (3, .int v3)] [] := by
    intro  n
    induction n with
    | zero =>
      intro ws w S mu u v1 v2 v3 hI hR H
      exact H.elim
    | succ nn58 ih58 =>
      intro ws w S mu u v1 v2 v3 hI hR H
      have H : ((13 : Int32) ≤ v3 → u ≤ cB ∧ (v2 = 0 ∨ v2 = 1) ∧ Post v2 S mu) ∧ (¬ (13 : Int32) ≤ v3 → (v2 = 0 → u ≤ cB ∧ (v2 = 0 ∨ v2 = 1) ∧ Post v2 S mu) ∧ (¬ v2 = 0 → u + 1 ≤ cB ∧ ∀ S6, S6 = (s_state S v3).2.2.2 → ∀ r6, r6 = an1 (s_state S v3) (-2000000098) → ∃ x7, mB mu v1 = some x7 ∧ (u + 1) ≤ cB ∧ wpX7_told mu v1 v3 (fun r8 => (¬ r6 = r8 → wpL_agrees_b86 cB Post (wpL_agrees_L58 cB Post  nn58) S6 mu (u + 1) v1 v3 (0 : Int32)) ∧ (r6 = r8 → wpL_agrees_b86 cB Post (wpL_agrees_L58 cB Post  nn58) S6 mu (u + 1) v1 v3 (1 : Int32))))) := H
      refine k_iload_n C 3 (pc := 58) dL_agrees_58 rfl rfl ?_
      refine k_bipush C (pc := 59) (v := (13 : Int32)) dL_agrees_59 (by decide) ?_
      refine k_icmp_ge C (pc := 61) (tgt := 93) dL_agrees_61 (by decide) (fun c_61 => ?_) (fun c_61 => ?_)
      · have H := H.1 c_61
        refine k_iload_n C 2 (pc := 93) dL_agrees_93 rfl rfl ?_
        obtain ⟨hc_, H⟩ := H
        refine k_widen (k := cB) (n := 16 * cB) hc_ (Nat.mul_le_mul_left 16 hc_) ?_
        exact k_zret C (pc := 94) hr (k_nar H.1) dL_agrees_94 ⟨_, S, mu, hI, hR, H.2⟩
      · have H := H.2 c_61
        refine k_iload_n C 2 (pc := 64) dL_agrees_64 rfl rfl ?_
        refine k_if_eq C (pc := 65) (tgt := 93) dL_agrees_65 (by decide) (fun c_65 => ?_) (fun c_65 => ?_)
        · have H := H.1 c_65
          refine k_iload_n C 2 (pc := 93) dL_agrees_93 rfl rfl ?_
          obtain ⟨hc_, H⟩ := H
          refine k_widen (k := cB) (n := 16 * cB) hc_ (Nat.mul_le_mul_left 16 hc_) ?_
          exact k_zret C (pc := 94) hr (k_nar H.1) dL_agrees_94 ⟨_, S, mu, hI, hR, H.2⟩
        · have H := H.2 c_65
          refine k_aload_n C 0 (pc := 68) dL_agrees_68 rfl rfl ?_
          refine k_iload_n C 3 (pc := 69) dL_agrees_69 rfl rfl ?_
          obtain ⟨hc_, H⟩ := H
          refine ky_callA C (pc := 70) (ky_runS C hE (As := [.ref (h 0), .int v3]) (rest := []) (wl_state l D cA h ab ac ar hst v3 hI hR) (ky_cw C tYL_state tW_6_150 tW_1_0 tW_6_151 okL_state rfl rfl ⟨Nat.le_of_ble_eq_true rfl, Nat.le_of_ble_eq_true rfl⟩) rfl rfl (Nat.le_of_ble_eq_true rfl) dL_agrees_70 (kw_rm hc_ (by decide) hRm)) (fun v_ w1 hv_ => ?_)
          obtain ⟨r6, rfl, w_, hI, hR, hr1_⟩ := hv_
          have hI := hI.weak
          obtain ⟨S6, hS1_⟩ : ∃ m_, m_ = (s_state S v3).2.2.2 := ⟨_, rfl⟩
          rw [← hS1_] at hI
          have H := H S6 hS1_ r6 hr1_
          refine k_eq (pc := 73) (st' := .int r6 :: []) rfl rfl rfl ?_
          refine k_widen (k := u + 1) (n := 16 * (u + 1)) (Nat.le_refl _) (by omega) ?_
          refine k_aload_n C 1 (pc := 73) dL_agrees_73 rfl rfl ?_
          refine k_iload_n C 3 (pc := 74) dL_agrees_74 rfl rfl ?_
          obtain ⟨x7, hx7, H⟩ := H
          obtain ⟨i7, hi7⟩ := List.getElem?_of_mem (hR.B hx7)
          obtain ⟨hc_, H⟩ := H
          refine k_callAi C (pc := 75) (l_runV C hF (As := [.int v3]) (rest := [.int r6]) (ci := 7) (q0 := i7) (conX7_told l D cA mu v1 v3 _  H hR) ⟨k_cwB C tW_6_116 tW_6_164 tW_1_9 okX7_told rfl rfl ⟨Nat.le_of_ble_eq_true rfl, Nat.le_of_ble_eq_true rfl⟩, C.w tW_6_114, C.w tW_6_115⟩ hi7 rfl rfl rfl rfl (Nat.le_of_ble_eq_true rfl) dL_agrees_75 ⟨hc_, (by show 16 * (u + 1) + 0 ≤ 16 * cB; omega)⟩) (fun r8 w1 hw_ => ?_)
          obtain ⟨rfl, H⟩ := hw_
          refine k_icmp_ne C (pc := 78) (tgt := 85) dL_agrees_78 (by decide) (fun c_78 => ?_) (fun c_78 => ?_)
          · have H := H.1 c_78
            refine k_iconst C (pc := 85) (v := (0 : Int32)) dL_agrees_85 rfl ?_
            refine k_lv (pc := 86) [0, 1, 3] (lv' := [(0, .ref (h 0)), (1, .ref v1), (3, .int v3)]) rfl ?_
            exact B86 (wpL_agrees_L58 cB Post  nn58) ih58 _ _ S6 mu (u + 1) v1 v3 (0 : Int32) hI hR H
          · have H := H.2 c_78
            refine k_iconst C (pc := 81) (v := (1 : Int32)) dL_agrees_81 rfl ?_
            refine k_goto C (pc := 82) (tgt := 86) dL_agrees_82 (by decide) ?_
            refine k_lv (pc := 86) [0, 1, 3] (lv' := [(0, .ref (h 0)), (1, .ref v1), (3, .int v3)]) rfl ?_
            exact B86 (wpL_agrees_L58 cB Post  nn58) ih58 _ _ S6 mu (u + 1) v1 v3 (1 : Int32) hI hR H
  have B55 : ∀  (ws w : va_W) (S : ivS) (mu : Mu) (u : Nat) (v1 : Nat) (s0 : Int32), ivI cA h ab ac ar S false w → LR cA w ws mu → wpL_agrees_b55 cB Post  S mu u v1 s0 → Kf p l e { frames := 100, cells := cB, slots := 16 * cB, locals := 2014 } s m args below meth c D (va_A ws0 s.heap.size) 4 u (16 * u) (MQ below (QC D ws0 s.heap.size (PI (fun r w2 => ∃ w1 S1 m1, ivI cA h ab ac ar S1 false w1 ∧ LR cA w1 w2 m1 ∧ Post r S1 m1))) args s cB (16 * cB) (va_A ws0 s.heap.size)) ws 55 [(0, .ref (h 0)), (1, .ref v1)] [.int s0] := by
    intro  ws w S mu u v1 s0 hI hR H
    have H : ∃ m_, wpL_agrees_L58 cB Post  m_ S mu u v1 s0 (0 : Int32) := H
    refine k_istore_n C (pc := 55) dL_agrees_55 rfl (Nat.lt_of_lt_of_le (Nat.lt_succ_self _) (Nat.le_of_ble_eq_true rfl)) (lv' := [(2, .int s0), (0, .ref (h 0)), (1, .ref v1)]) rfl ?_
    refine k_iconst C (pc := 56) (v := (0 : Int32)) dL_agrees_56 rfl ?_
    refine k_istore_n C (pc := 57) dL_agrees_57 rfl (Nat.lt_of_lt_of_le (Nat.lt_succ_self _) (Nat.le_of_ble_eq_true rfl)) (lv' := [(3, .int (0 : Int32)), (2, .int s0), (0, .ref (h 0)), (1, .ref v1)]) rfl ?_
    obtain ⟨n_, H⟩ := H
    refine k_lv (pc := 58) [2, 3, 1, 0] (lv' := [(0, .ref (h 0)), (1, .ref v1), (2, .int s0), (3, .int (0 : Int32))]) rfl ?_
    exact B58  n_ _ _ S mu u v1 s0 (0 : Int32) hI hR H
  have B54 : ∀  (ws w : va_W) (S : ivS) (mu : Mu) (u : Nat) (v1 : Nat), ivI cA h ab ac ar S false w → LR cA w ws mu → wpL_agrees_b54 cB Post  S mu u v1 → Kf p l e { frames := 100, cells := cB, slots := 16 * cB, locals := 2014 } s m args below meth c D (va_A ws0 s.heap.size) 4 u (16 * u) (MQ below (QC D ws0 s.heap.size (PI (fun r w2 => ∃ w1 S1 m1, ivI cA h ab ac ar S1 false w1 ∧ LR cA w1 w2 m1 ∧ Post r S1 m1))) args s cB (16 * cB) (va_A ws0 s.heap.size)) ws 54 [(0, .ref (h 0)), (1, .ref v1)] [] := by
    intro  ws w S mu u v1 hI hR H
    have H : wpL_agrees_b55 cB Post  S mu u v1 (0 : Int32) := H
    refine k_iconst C (pc := 54) (v := (0 : Int32)) dL_agrees_54 rfl ?_
    refine k_lv (pc := 55) [0, 1] (lv' := [(0, .ref (h 0)), (1, .ref v1)]) rfl ?_
    exact B55  _ _ S mu u v1 (0 : Int32) hI hR H
  refine k_eq (ws' := ws0) (lv' := [(0, .ref (h 0)), (1, .ref v1)]) (st' := []) rfl rfl rfl ?_
  have H : 0 ≤ cB ∧ ∀ r1, r1 = ckA (S).1 → ∃ x2, mB mu v1 = some x2 ∧ ∃ q4, 0 + q4 ≤ cB ∧ wpX7_checksum q4 mu v1 (fun r3 mu5 => (¬ (lg_cmp r1 r3) = 0 → wpL_agrees_b54 cB Post  S mu5 (0 + q4) v1) ∧ ((lg_cmp r1 r3) = 0 → (0 + q4) + 1 ≤ cB ∧ ∀ S9, S9 = (s_state S (13 : Int32)).2.2.2 → ∀ r9, r9 = an1 (s_state S (13 : Int32)) (-2000000098) → (¬ r9 = (-2000000098 : Int32) → wpL_agrees_b54 cB Post  S9 mu5 ((0 + q4) + 1) v1) ∧ (r9 = (-2000000098 : Int32) → ∃ x10, mB mu5 v1 = some x10 ∧ ∃ a10, x10.2.2.2.2.2.1 = some a10 ∧ ∃ n11 f11, mQ mu5 a10 = some (2, n11, f11) ∧ ((0 + q4) + 1) + 2 ≤ cB ∧ ∀ S12, S12 = (s_paragraph S9 (nI n11) (0 : Int32)).2.2.2 → ∀ r12, r12 = an2 (s_paragraph S9 (nI n11) (0 : Int32)) (-2000000097) (-2000000098) → (¬ r12 = (-2000000097 : Int32) → wpL_agrees_b54 cB Post  S12 mu5 (((0 + q4) + 1) + 2) v1) ∧ (r12 = (-2000000097 : Int32) → (((0 + q4) + 1) + 2) + 1 ≤ cB ∧ ∀ S13, S13 = (s_plan S12 true (7 : Int32)).2.2.2 → ∀ r13, r13 = an1 (s_plan S12 true (7 : Int32)) (-2000000098) → (¬ r13 = (-2000000098 : Int32) → wpL_agrees_b54 cB Post  S13 mu5 ((((0 + q4) + 1) + 2) + 1) v1) ∧ (r13 = (-2000000098 : Int32) → wpL_agrees_b55 cB Post  S13 mu5 ((((0 + q4) + 1) + 2) + 1) v1 (1 : Int32)))))) := H
  refine k_widen (k := 0) (n := 16 * 0) (Nat.le_refl _) (Nat.le_refl _) ?_
  refine k_aload_n C 0 (pc := 0) dL_agrees_0 rfl rfl ?_
  obtain ⟨hc_, H⟩ := H
  obtain ⟨l0_, e0_, hl_⟩ := hR
  obtain ⟨fs_, t_, hw_⟩ := hI.hd
  refine k_eq (pc := 1) e0_ rfl rfl ?_
  refine k_onL C (pc := 1) (k_runV C (As := []) (rest := []) (ci := 6) (q0 := 0) (xi_checksum l D cA h ab ac ar hI) ⟨k_cwB C tW_6_48 tW_6_45 tW_1_1 okX6_checksum rfl rfl ⟨Nat.le_of_ble_eq_true rfl, Nat.le_of_ble_eq_true rfl⟩, C.w tW_6_46, C.w tW_6_47⟩ (by rw [hw_]; rfl) rfl rfl rfl rfl (Nat.le_of_ble_eq_true rfl) dL_agrees_1 (kw_rm (k := 0) hc_ (by decide) hRm)) (fun v_ w1 hv_ => ?_)
  obtain ⟨r1, rfl, hr1_, hI⟩ := hv_
  have H := H r1 hr1_
  have hR : LR cA w1 (w1 ++ l0_) mu := ⟨l0_, rfl, hl_⟩
  refine k_eq (pc := 4) (st' := [.long r1]) rfl rfl rfl ?_
  refine k_widen (k := 0) (n := 16 * 0) (Nat.le_refl _) (Nat.le_refl _) ?_
  refine k_aload_n C 1 (pc := 4) dL_agrees_4 rfl rfl ?_
  obtain ⟨x2, hx2, H⟩ := H
  obtain ⟨i2, hi2⟩ := List.getElem?_of_mem (hR.B hx2)
  obtain ⟨q4, hc_, H⟩ := H
  refine k_callAl C (pc := 5) (l_runV C hF (As := []) (rest := [.long r1]) (ci := 7) (q0 := i2) (conX7_checksum l D cA q4 mu v1 _  H hR) ⟨k_cwB C tW_6_76 tW_6_73 tW_1_9 okX7_checksum rfl rfl ⟨Nat.le_of_ble_eq_true rfl, Nat.le_of_ble_eq_true rfl⟩, C.w tW_6_74, C.w tW_6_75⟩ hi2 rfl rfl rfl rfl (Nat.le_of_ble_eq_true rfl) dL_agrees_5 ⟨hc_, by show 16 * (0) + 16 * q4 ≤ 16 * cB; omega⟩) (fun r3 w1 hw_ => ?_)
  obtain ⟨mu5, hR, H⟩ := hw_
  refine k_sl ?_
  refine k_lcmp C (pc := 8) dL_agrees_8 ?_
  refine k_if_ne C (pc := 9) (tgt := 54) dL_agrees_9 (by decide) (fun c_9 => ?_) (fun c_9 => ?_)
  · have H := H.1 c_9
    refine k_lv (pc := 54) [0, 1] (lv' := [(0, .ref (h 0)), (1, .ref v1)]) rfl ?_
    exact B54  _ _ S mu5 (0 + q4) v1 hI hR H
  · have H := H.2 c_9
    refine k_aload_n C 0 (pc := 12) dL_agrees_12 rfl rfl ?_
    refine k_bipush C (pc := 13) (v := (13 : Int32)) dL_agrees_13 (by decide) ?_
    obtain ⟨hc_, H⟩ := H
    refine ky_callA C (pc := 15) (ky_runS C hE (As := [.ref (h 0), .int (13 : Int32)]) (rest := []) (wl_state l D cA h ab ac ar hst (13 : Int32) hI hR) (ky_cw C tYL_state tW_6_150 tW_1_0 tW_6_151 okL_state rfl rfl ⟨Nat.le_of_ble_eq_true rfl, Nat.le_of_ble_eq_true rfl⟩) rfl rfl (Nat.le_of_ble_eq_true rfl) dL_agrees_15 (kw_rm hc_ (by decide) hRm)) (fun v_ w1 hv_ => ?_)
    obtain ⟨r9, rfl, w_, hI, hR, hr1_⟩ := hv_
    have hI := hI.weak
    obtain ⟨S9, hS1_⟩ : ∃ m_, m_ = (s_state S (13 : Int32)).2.2.2 := ⟨_, rfl⟩
    rw [← hS1_] at hI
    have H := H S9 hS1_ r9 hr1_
    refine k_eq (pc := 18) (st' := .int r9 :: []) rfl rfl rfl ?_
    refine k_widen (k := (0 + q4) + 1) (n := 16 * ((0 + q4) + 1)) (Nat.le_refl _) (by omega) ?_
    refine k_ldc C (pc := 18) (v := (-2000000098 : Int32)) tW_3_155 dL_agrees_18 ?_
    refine k_icmp_ne C (pc := 20) (tgt := 54) dL_agrees_20 (by decide) (fun c_20 => ?_) (fun c_20 => ?_)
    · have H := H.1 c_20
      refine k_lv (pc := 54) [0, 1] (lv' := [(0, .ref (h 0)), (1, .ref v1)]) rfl ?_
      exact B54  _ _ S9 mu5 ((0 + q4) + 1) v1 hI hR H
    · have H := H.2 c_20
      refine k_aload_n C 0 (pc := 23) dL_agrees_23 rfl rfl ?_
      refine k_aload_n C 1 (pc := 24) dL_agrees_24 rfl rfl ?_
      obtain ⟨x10, hx10, H⟩ := H
      obtain ⟨a10, ha10, H⟩ := H
      refine l_getB C hR (pc := 25) hx10 5 (Nat.lt_of_lt_of_le (Nat.lt_succ_self _) (Nat.le_of_ble_eq_true rfl)) (ref := "WidowWatchLaw$Book") tW_2_73 rfl (v := .ref a10) (by show some (va_rf x10.2.2.2.2.2.1) = _; rw [ha10]; rfl) dL_agrees_25 ?_
      obtain ⟨n11, f11, hx_, H⟩ := H
      refine l_alenQ C hR (pc := 28) (Or.inl rfl) hx_ dL_agrees_28 ?_
      refine k_iconst C (pc := 29) (v := (0 : Int32)) dL_agrees_29 rfl ?_
      obtain ⟨hc_, H⟩ := H
      refine ky_callA C (pc := 30) (ky_runS C hE (As := [.ref (h 0), .int (nI n11), .int (0 : Int32)]) (rest := []) (wl_paragraph l D cA h ab ac ar hst (nI n11) (0 : Int32) hI hR) (ky_cw C tYL_paragraph tW_6_157 tW_1_0 tW_6_158 okL_paragraph rfl rfl ⟨Nat.le_of_ble_eq_true rfl, Nat.le_of_ble_eq_true rfl⟩) rfl rfl (Nat.le_of_ble_eq_true rfl) dL_agrees_30 (kw_rm hc_ (by decide) hRm)) (fun v_ w1 hv_ => ?_)
      obtain ⟨r12, rfl, w_, hI, hR, hr1_⟩ := hv_
      have hI := hI.weak
      obtain ⟨S12, hS1_⟩ : ∃ m_, m_ = (s_paragraph S9 (nI n11) (0 : Int32)).2.2.2 := ⟨_, rfl⟩
      rw [← hS1_] at hI
      have H := H S12 hS1_ r12 hr1_
      refine k_eq (pc := 33) (st' := .int r12 :: []) rfl rfl rfl ?_
      refine k_widen (k := ((0 + q4) + 1) + 2) (n := 16 * (((0 + q4) + 1) + 2)) (Nat.le_refl _) (by omega) ?_
      refine k_ldc C (pc := 33) (v := (-2000000097 : Int32)) tW_3_203 dL_agrees_33 ?_
      refine k_icmp_ne C (pc := 35) (tgt := 54) dL_agrees_35 (by decide) (fun c_35 => ?_) (fun c_35 => ?_)
      · have H := H.1 c_35
        refine k_lv (pc := 54) [0, 1] (lv' := [(0, .ref (h 0)), (1, .ref v1)]) rfl ?_
        exact B54  _ _ S12 mu5 (((0 + q4) + 1) + 2) v1 hI hR H
      · have H := H.2 c_35
        refine k_aload_n C 0 (pc := 38) dL_agrees_38 rfl rfl ?_
        refine k_iconst C (pc := 39) (v := (1 : Int32)) dL_agrees_39 rfl ?_
        refine k_bipush C (pc := 40) (v := (7 : Int32)) dL_agrees_40 (by decide) ?_
        obtain ⟨hc_, H⟩ := H
        refine ky_callA C (pc := 42) (ky_runS C hE (As := [.ref (h 0), .int (bI true), .int (7 : Int32)]) (rest := []) (wl_plan l D cA h ab ac ar hst true (7 : Int32) hI hR) (ky_cw C tYL_plan tW_3_223 tW_1_0 tW_3_224 okL_plan rfl rfl ⟨Nat.le_of_ble_eq_true rfl, Nat.le_of_ble_eq_true rfl⟩) rfl rfl (Nat.le_of_ble_eq_true rfl) dL_agrees_42 (kw_rm hc_ (by decide) hRm)) (fun v_ w1 hv_ => ?_)
        obtain ⟨r13, rfl, w_, hI, hR, hr1_⟩ := hv_
        have hI := hI.weak
        obtain ⟨S13, hS1_⟩ : ∃ m_, m_ = (s_plan S12 true (7 : Int32)).2.2.2 := ⟨_, rfl⟩
        rw [← hS1_] at hI
        have H := H S13 hS1_ r13 hr1_
        refine k_eq (pc := 45) (st' := .int r13 :: []) rfl rfl rfl ?_
        refine k_widen (k := (((0 + q4) + 1) + 2) + 1) (n := 16 * ((((0 + q4) + 1) + 2) + 1)) (Nat.le_refl _) (by omega) ?_
        refine k_ldc C (pc := 45) (v := (-2000000098 : Int32)) tW_3_155 dL_agrees_45 ?_
        refine k_icmp_ne C (pc := 47) (tgt := 54) dL_agrees_47 (by decide) (fun c_47 => ?_) (fun c_47 => ?_)
        · have H := H.1 c_47
          refine k_lv (pc := 54) [0, 1] (lv' := [(0, .ref (h 0)), (1, .ref v1)]) rfl ?_
          exact B54  _ _ S13 mu5 ((((0 + q4) + 1) + 2) + 1) v1 hI hR H
        · have H := H.2 c_47
          refine k_iconst C (pc := 50) (v := (1 : Int32)) dL_agrees_50 rfl ?_
          refine k_goto C (pc := 51) (tgt := 55) dL_agrees_51 (by decide) ?_
          refine k_lv (pc := 55) [0, 1] (lv' := [(0, .ref (h 0)), (1, .ref v1)]) rfl ?_
          exact B55  _ _ S13 mu5 ((((0 + q4) + 1) + 2) + 1) v1 (1 : Int32) hI hR H
