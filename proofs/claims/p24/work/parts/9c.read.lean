/-! WidowWatchLaw$Book.many(II)I -/
theorem dX7_many_0 : decode cX7_many 0 = .ok (.iload_n 2, 1) := by decide +kernel
theorem dX7_many_1 : decode cX7_many 1 = .ok (.ifCond .ne 10, 3) := by decide +kernel
theorem dX7_many_4 : decode cX7_many 4 = .ok (.aload_n 0, 1) := by decide +kernel
theorem dX7_many_5 : decode cX7_many 5 = .ok (.getfield 7, 3) := by decide +kernel
theorem dX7_many_8 : decode cX7_many 8 = .ok (.goto 29, 3) := by decide +kernel
theorem dX7_many_11 : decode cX7_many 11 = .ok (.iload_n 2, 1) := by decide +kernel
theorem dX7_many_12 : decode cX7_many 12 = .ok (.iconst 1, 1) := by decide +kernel
theorem dX7_many_13 : decode cX7_many 13 = .ok (.if_icmp .ne 15, 3) := by decide +kernel
theorem dX7_many_16 : decode cX7_many 16 = .ok (.aload_n 0, 1) := by decide +kernel
theorem dX7_many_17 : decode cX7_many 17 = .ok (.getfield 7, 3) := by decide +kernel
theorem dX7_many_20 : decode cX7_many 20 = .ok (.aload_n 0, 1) := by decide +kernel
theorem dX7_many_21 : decode cX7_many 21 = .ok (.getfield 16, 3) := by decide +kernel
theorem dX7_many_24 : decode cX7_many 24 = .ok (.iadd, 1) := by decide +kernel
theorem dX7_many_25 : decode cX7_many 25 = .ok (.goto 12, 3) := by decide +kernel
theorem dX7_many_28 : decode cX7_many 28 = .ok (.aload_n 0, 1) := by decide +kernel
theorem dX7_many_29 : decode cX7_many 29 = .ok (.getfield 7, 3) := by decide +kernel
theorem dX7_many_32 : decode cX7_many 32 = .ok (.aload_n 0, 1) := by decide +kernel
theorem dX7_many_33 : decode cX7_many 33 = .ok (.getfield 16, 3) := by decide +kernel
theorem dX7_many_36 : decode cX7_many 36 = .ok (.isub, 1) := by decide +kernel
theorem dX7_many_37 : decode cX7_many 37 = .ok (.istore_n 3, 1) := by decide +kernel
theorem dX7_many_38 : decode cX7_many 38 = .ok (.iconst 0, 1) := by decide +kernel
theorem dX7_many_39 : decode cX7_many 39 = .ok (.istore 4, 2) := by decide +kernel
theorem dX7_many_41 : decode cX7_many 41 = .ok (.iconst 0, 1) := by decide +kernel
theorem dX7_many_42 : decode cX7_many 42 = .ok (.istore 5, 2) := by decide +kernel
theorem dX7_many_44 : decode cX7_many 44 = .ok (.aload_n 0, 1) := by decide +kernel
theorem dX7_many_45 : decode cX7_many 45 = .ok (.getfield 28, 3) := by decide +kernel
theorem dX7_many_48 : decode cX7_many 48 = .ok (.iload_n 1, 1) := by decide +kernel
theorem dX7_many_49 : decode cX7_many 49 = .ok (.aaload, 1) := by decide +kernel
theorem dX7_many_50 : decode cX7_many 50 = .ok (.getfield 45, 3) := by decide +kernel
theorem dX7_many_53 : decode cX7_many 53 = .ok (.astore 6, 2) := by decide +kernel
theorem dX7_many_55 : decode cX7_many 55 = .ok (.aload 6, 2) := by decide +kernel
theorem dX7_many_57 : decode cX7_many 57 = .ok (.arraylength, 1) := by decide +kernel
theorem dX7_many_58 : decode cX7_many 58 = .ok (.istore 7, 2) := by decide +kernel
theorem dX7_many_60 : decode cX7_many 60 = .ok (.iconst 0, 1) := by decide +kernel
theorem dX7_many_61 : decode cX7_many 61 = .ok (.istore 8, 2) := by decide +kernel
theorem dX7_many_63 : decode cX7_many 63 = .ok (.iload 8, 2) := by decide +kernel
theorem dX7_many_65 : decode cX7_many 65 = .ok (.iload 7, 2) := by decide +kernel
theorem dX7_many_67 : decode cX7_many 67 = .ok (.if_icmp .ge 66, 3) := by decide +kernel
theorem dX7_many_70 : decode cX7_many 70 = .ok (.aload 6, 2) := by decide +kernel
theorem dX7_many_72 : decode cX7_many 72 = .ok (.iload 8, 2) := by decide +kernel
theorem dX7_many_74 : decode cX7_many 74 = .ok (.iaload, 1) := by decide +kernel
theorem dX7_many_75 : decode cX7_many 75 = .ok (.istore 9, 2) := by decide +kernel
theorem dX7_many_77 : decode cX7_many 77 = .ok (.iload 4, 2) := by decide +kernel
theorem dX7_many_79 : decode cX7_many 79 = .ok (.ifCond .le 18, 3) := by decide +kernel
theorem dX7_many_82 : decode cX7_many 82 = .ok (.iload 5, 2) := by decide +kernel
theorem dX7_many_84 : decode cX7_many 84 = .ok (.iconst 1, 1) := by decide +kernel
theorem dX7_many_85 : decode cX7_many 85 = .ok (.iadd, 1) := by decide +kernel
theorem dX7_many_86 : decode cX7_many 86 = .ok (.iload 9, 2) := by decide +kernel
theorem dX7_many_88 : decode cX7_many 88 = .ok (.iadd, 1) := by decide +kernel
theorem dX7_many_89 : decode cX7_many 89 = .ok (.iload_n 3, 1) := by decide +kernel
theorem dX7_many_90 : decode cX7_many 90 = .ok (.if_icmp .gt 7, 3) := by decide +kernel
theorem dX7_many_93 : decode cX7_many 93 = .ok (.iconst 1, 1) := by decide +kernel
theorem dX7_many_94 : decode cX7_many 94 = .ok (.goto 4, 3) := by decide +kernel
theorem dX7_many_97 : decode cX7_many 97 = .ok (.iconst 0, 1) := by decide +kernel
theorem dX7_many_98 : decode cX7_many 98 = .ok (.istore 10, 2) := by decide +kernel
theorem dX7_many_100 : decode cX7_many 100 = .ok (.iload 10, 2) := by decide +kernel
theorem dX7_many_102 : decode cX7_many 102 = .ok (.ifCond .ne 6, 3) := by decide +kernel
theorem dX7_many_105 : decode cX7_many 105 = .ok (.iinc 4 1, 3) := by decide +kernel
theorem dX7_many_108 : decode cX7_many 108 = .ok (.iload 10, 2) := by decide +kernel
theorem dX7_many_110 : decode cX7_many 110 = .ok (.ifCond .eq 13, 3) := by decide +kernel
theorem dX7_many_113 : decode cX7_many 113 = .ok (.iload 5, 2) := by decide +kernel
theorem dX7_many_115 : decode cX7_many 115 = .ok (.iconst 1, 1) := by decide +kernel
theorem dX7_many_116 : decode cX7_many 116 = .ok (.iadd, 1) := by decide +kernel
theorem dX7_many_117 : decode cX7_many 117 = .ok (.iload 9, 2) := by decide +kernel
theorem dX7_many_119 : decode cX7_many 119 = .ok (.iadd, 1) := by decide +kernel
theorem dX7_many_120 : decode cX7_many 120 = .ok (.goto 5, 3) := by decide +kernel
theorem dX7_many_123 : decode cX7_many 123 = .ok (.iload 9, 2) := by decide +kernel
theorem dX7_many_125 : decode cX7_many 125 = .ok (.istore 5, 2) := by decide +kernel
theorem dX7_many_127 : decode cX7_many 127 = .ok (.iinc 8 1, 3) := by decide +kernel
theorem dX7_many_130 : decode cX7_many 130 = .ok (.goto (-67), 3) := by decide +kernel
theorem dX7_many_133 : decode cX7_many 133 = .ok (.iload 4, 2) := by decide +kernel
theorem dX7_many_135 : decode cX7_many 135 = .ok (.ireturn, 1) := by decide +kernel
theorem okX7_many : okY yX7_many 2 := ⟨by decide +kernel, by decide +kernel, by decide +kernel⟩
def wpX7_many_b125 (mu : Mu) (Post : Int32 → Prop) (K63 : Int32 → Int32 → Int32 → Nat → Int32 → Int32 → Prop) (v3 : Int32) (v4 : Int32) (v6 : Nat) (v7 : Int32) (v8 : Int32) (s0 : Int32) : Prop := K63 v3 v4 s0 v6 v7 (v8 + (1 : Int32))
def wpX7_many_b108 (mu : Mu) (Post : Int32 → Prop) (K63 : Int32 → Int32 → Int32 → Nat → Int32 → Int32 → Prop) (v3 : Int32) (v4 : Int32) (v5 : Int32) (v6 : Nat) (v7 : Int32) (v8 : Int32) (v9 : Int32) (v10 : Int32) : Prop := (v10 = 0 → wpX7_many_b125 mu Post K63 v3 v4 v6 v7 v8 v9) ∧ (¬ v10 = 0 → wpX7_many_b125 mu Post K63 v3 v4 v6 v7 v8 ((v5 + (1 : Int32)) + v9))
def wpX7_many_b98 (mu : Mu) (Post : Int32 → Prop) (K63 : Int32 → Int32 → Int32 → Nat → Int32 → Int32 → Prop) (v3 : Int32) (v4 : Int32) (v5 : Int32) (v6 : Nat) (v7 : Int32) (v8 : Int32) (v9 : Int32) (s0 : Int32) : Prop := (¬ s0 = 0 → wpX7_many_b108 mu Post K63 v3 v4 v5 v6 v7 v8 v9 s0) ∧ (s0 = 0 → wpX7_many_b108 mu Post K63 v3 (v4 + (1 : Int32)) v5 v6 v7 v8 v9 s0)
def wpX7_many_b97 (mu : Mu) (Post : Int32 → Prop) (K63 : Int32 → Int32 → Int32 → Nat → Int32 → Int32 → Prop) (v3 : Int32) (v4 : Int32) (v5 : Int32) (v6 : Nat) (v7 : Int32) (v8 : Int32) (v9 : Int32) : Prop := wpX7_many_b98 mu Post K63 v3 v4 v5 v6 v7 v8 v9 (0 : Int32)
def wpX7_many_L63 (mu : Mu) (Post : Int32 → Prop)  : Nat → Int32 → Int32 → Int32 → Nat → Int32 → Int32 → Prop
  | 0 => fun _ _ _ _ _ _ => False
  | nn63 + 1 => fun v3 v4 v5 v6 v7 v8 => (v7 ≤ v8 → Post v4) ∧ (¬ v7 ≤ v8 → ∃ n7 f7 k7, mI mu v6 = some (n7, f7) ∧ v8 = nI k7 ∧ k7 < n7 ∧ n7 ≤ 1000 ∧ (v4 ≤ 0 → wpX7_many_b97 mu Post (wpX7_many_L63 mu Post  nn63) v3 v4 v5 v6 v7 v8 (f7 k7)) ∧ (¬ v4 ≤ 0 → (v3 < ((v5 + (1 : Int32)) + (f7 k7)) → wpX7_many_b97 mu Post (wpX7_many_L63 mu Post  nn63) v3 v4 v5 v6 v7 v8 (f7 k7)) ∧ (¬ v3 < ((v5 + (1 : Int32)) + (f7 k7)) → wpX7_many_b98 mu Post (wpX7_many_L63 mu Post  nn63) v3 v4 v5 v6 v7 v8 (f7 k7) (1 : Int32))))
def wpX7_many_b37 (mu : Mu) (Post : Int32 → Prop)  (v0 : Nat) (v1 : Int32) (s0 : Int32) : Prop := ∃ x3, mB mu v0 = some x3 ∧ ∃ a3, x3.2.2.2.2.2.1 = some a3 ∧ ∃ n4 f4 k4, mQ mu a3 = some (2, n4, f4) ∧ v1 = nI k4 ∧ k4 < n4 ∧ n4 ≤ 1000 ∧ ∃ a4, f4 k4 = some a4 ∧ ∃ x5, mP mu a4 = some x5 ∧ ∃ a5, x5.2.2.2 = some a5 ∧ ∃ n6 f6, mI mu a5 = some (n6, f6) ∧ ∃ m_, wpX7_many_L63 mu Post  m_ s0 (0 : Int32) (0 : Int32) a5 (nI n6) (0 : Int32)
def wpX7_many (mu : Mu) (v0 : Nat) (v1 : Int32) (v2 : Int32) (Post : Int32 → Prop) : Prop := (¬ v2 = 0 → (¬ v2 = (1 : Int32) → ∃ x1, mB mu v0 = some x1 ∧ ∃ x2, mB mu v0 = some x2 ∧ wpX7_many_b37 mu Post  v0 v1 (x1.1 - x2.2.2.1)) ∧ (v2 = (1 : Int32) → ∃ x8, mB mu v0 = some x8 ∧ ∃ x9, mB mu v0 = some x9 ∧ wpX7_many_b37 mu Post  v0 v1 (x8.1 + x9.2.2.1))) ∧ (v2 = 0 → ∃ x10, mB mu v0 = some x10 ∧ wpX7_many_b37 mu Post  v0 v1 x10.1)
set_option maxHeartbeats 4000000 in
set_option maxRecDepth 100000 in
theorem conX7_many (l : Launch) (D : va_G) (cA : Nat → ClassId) (mu : Mu) (v0 : Nat) (v1 : Int32) (v2 : Int32) (Post : Int32 → Prop)  (H : wpX7_many mu v0 v1 v2 Post) {w0 ws0 : va_W} (hR : LR cA w0 ws0 mu) : ConN l D cA yX7_many (wm yX7_many cX7_many 11 (some .int)) { frames := 0, cells := 0, slots := 0, locals := 0 } ws0 [.ref v0, .int v1, .int v2] 0 0 (PI (fun r w1 => w1 = ws0 ∧ Post r)) := by
  refine ConN.of (by decide) (Nat.le_of_ble_eq_true rfl) ?_
  intro p e s m args below meth c C hF hr hini
  have B125 : ∀ (K63 : Int32 → Int32 → Int32 → Nat → Int32 → Int32 → Prop) (hK63 : ∀ (v3 : Int32) (v4 : Int32) (v5 : Int32) (v6 : Nat) (v7 : Int32) (v8 : Int32), K63 v3 v4 v5 v6 v7 v8 → Kf p l e { frames := 0, cells := 0, slots := 0, locals := 0 } s m args below meth c D (va_A ws0 s.heap.size) 11 0 0 (MQ below (QC D ws0 s.heap.size (PI (fun r w1 => w1 = ws0 ∧ Post r))) args s 0 0 (va_A ws0 s.heap.size)) ws0 63 [(3, .int v3), (4, .int v4), (5, .int v5), (6, .ref v6), (7, .int v7), (8, .int v8)] []) (v3 : Int32) (v4 : Int32) (v6 : Nat) (v7 : Int32) (v8 : Int32) (s0 : Int32), wpX7_many_b125 mu Post K63 v3 v4 v6 v7 v8 s0 → Kf p l e { frames := 0, cells := 0, slots := 0, locals := 0 } s m args below meth c D (va_A ws0 s.heap.size) 11 0 0 (MQ below (QC D ws0 s.heap.size (PI (fun r w1 => w1 = ws0 ∧ Post r))) args s 0 0 (va_A ws0 s.heap.size)) ws0 125 [(3, .int v3), (4, .int v4), (6, .ref v6), (7, .int v7), (8, .int v8)] [.int s0] := by
    intro K63 hK63 v3 v4 v6 v7 v8 s0 H
    have H : K63 v3 v4 s0 v6 v7 (v8 + (1 : Int32)) := H
    refine k_istore C (pc := 125) dX7_many_125 (Nat.lt_of_lt_of_le (Nat.lt_succ_self _) (Nat.le_of_ble_eq_true rfl)) (lv' := [(5, .int s0), (3, .int v3), (4, .int v4), (6, .ref v6), (7, .int v7), (8, .int v8)]) rfl ?_
    refine k_iinc C (pc := 127) (k := 5) (v := v8 + (1 : Int32)) dX7_many_127 rfl rfl (Nat.lt_of_lt_of_le (Nat.lt_succ_self _) (Nat.le_of_ble_eq_true rfl)) (lv' := [(8, .int (v8 + (1 : Int32))), (5, .int s0), (3, .int v3), (4, .int v4), (6, .ref v6), (7, .int v7)]) rfl ?_
    refine k_goto C (pc := 130) (tgt := 63) dX7_many_130 (by decide) ?_
    refine k_lv (pc := 63) [2, 3, 1, 4, 5, 0] (lv' := [(3, .int v3), (4, .int v4), (5, .int s0), (6, .ref v6), (7, .int v7), (8, .int (v8 + (1 : Int32)))]) rfl ?_
    exact hK63 v3 v4 s0 v6 v7 (v8 + (1 : Int32)) H
  have B108 : ∀ (K63 : Int32 → Int32 → Int32 → Nat → Int32 → Int32 → Prop) (hK63 : ∀ (v3 : Int32) (v4 : Int32) (v5 : Int32) (v6 : Nat) (v7 : Int32) (v8 : Int32), K63 v3 v4 v5 v6 v7 v8 → Kf p l e { frames := 0, cells := 0, slots := 0, locals := 0 } s m args below meth c D (va_A ws0 s.heap.size) 11 0 0 (MQ below (QC D ws0 s.heap.size (PI (fun r w1 => w1 = ws0 ∧ Post r))) args s 0 0 (va_A ws0 s.heap.size)) ws0 63 [(3, .int v3), (4, .int v4), (5, .int v5), (6, .ref v6), (7, .int v7), (8, .int v8)] []) (v3 : Int32) (v4 : Int32) (v5 : Int32) (v6 : Nat) (v7 : Int32) (v8 : Int32) (v9 : Int32) (v10 : Int32), wpX7_many_b108 mu Post K63 v3 v4 v5 v6 v7 v8 v9 v10 → Kf p l e { frames := 0, cells := 0, slots := 0, locals := 0 } s m args below meth c D (va_A ws0 s.heap.size) 11 0 0 (MQ below (QC D ws0 s.heap.size (PI (fun r w1 => w1 = ws0 ∧ Post r))) args s 0 0 (va_A ws0 s.heap.size)) ws0 108 [(3, .int v3), (4, .int v4), (5, .int v5), (6, .ref v6), (7, .int v7), (8, .int v8), (9, .int v9), (10, .int v10)] [] := by
    intro K63 hK63 v3 v4 v5 v6 v7 v8 v9 v10 H
    have H : (v10 = 0 → wpX7_many_b125 mu Post K63 v3 v4 v6 v7 v8 v9) ∧ (¬ v10 = 0 → wpX7_many_b125 mu Post K63 v3 v4 v6 v7 v8 ((v5 + (1 : Int32)) + v9)) := H
    refine k_iload C 7 (pc := 108) dX7_many_108 rfl ?_
    refine k_if_eq C (pc := 110) (tgt := 123) dX7_many_110 (by decide) (fun c_110 => ?_) (fun c_110 => ?_)
    · have H := H.1 c_110
      refine k_iload C 6 (pc := 123) dX7_many_123 rfl ?_
      refine k_lv (pc := 125) [0, 1, 3, 4, 5] (lv' := [(3, .int v3), (4, .int v4), (6, .ref v6), (7, .int v7), (8, .int v8)]) rfl ?_
      exact B125 K63 hK63 v3 v4 v6 v7 v8 v9 H
    · have H := H.2 c_110
      refine k_iload C 2 (pc := 113) dX7_many_113 rfl ?_
      refine k_iconst C (pc := 115) (v := (1 : Int32)) dX7_many_115 rfl ?_
      refine k_iadd C (pc := 116) dX7_many_116 ?_
      refine k_iload C 6 (pc := 117) dX7_many_117 rfl ?_
      refine k_iadd C (pc := 119) dX7_many_119 ?_
      refine k_goto C (pc := 120) (tgt := 125) dX7_many_120 (by decide) ?_
      refine k_lv (pc := 125) [0, 1, 3, 4, 5] (lv' := [(3, .int v3), (4, .int v4), (6, .ref v6), (7, .int v7), (8, .int v8)]) rfl ?_
      exact B125 K63 hK63 v3 v4 v6 v7 v8 ((v5 + (1 : Int32)) + v9) H
  have B98 : ∀ (K63 : Int32 → Int32 → Int32 → Nat → Int32 → Int32 → Prop) (hK63 : ∀ (v3 : Int32) (v4 : Int32) (v5 : Int32) (v6 : Nat) (v7 : Int32) (v8 : Int32), K63 v3 v4 v5 v6 v7 v8 → Kf p l e { frames := 0, cells := 0, slots := 0, locals := 0 } s m args below meth c D (va_A ws0 s.heap.size) 11 0 0 (MQ below (QC D ws0 s.heap.size (PI (fun r w1 => w1 = ws0 ∧ Post r))) args s 0 0 (va_A ws0 s.heap.size)) ws0 63 [(3, .int v3), (4, .int v4), (5, .int v5), (6, .ref v6), (7, .int v7), (8, .int v8)] []) (v3 : Int32) (v4 : Int32) (v5 : Int32) (v6 : Nat) (v7 : Int32) (v8 : Int32) (v9 : Int32) (s0 : Int32), wpX7_many_b98 mu Post K63 v3 v4 v5 v6 v7 v8 v9 s0 → Kf p l e { frames := 0, cells := 0, slots := 0, locals := 0 } s m args below meth c D (va_A ws0 s.heap.size) 11 0 0 (MQ below (QC D ws0 s.heap.size (PI (fun r w1 => w1 = ws0 ∧ Post r))) args s 0 0 (va_A ws0 s.heap.size)) ws0 98 [(3, .int v3), (4, .int v4), (5, .int v5), (6, .ref v6), (7, .int v7), (8, .int v8), (9, .int v9)] [.int s0] := by
    intro K63 hK63 v3 v4 v5 v6 v7 v8 v9 s0 H
    have H : (¬ s0 = 0 → wpX7_many_b108 mu Post K63 v3 v4 v5 v6 v7 v8 v9 s0) ∧ (s0 = 0 → wpX7_many_b108 mu Post K63 v3 (v4 + (1 : Int32)) v5 v6 v7 v8 v9 s0) := H
    refine k_istore C (pc := 98) dX7_many_98 (Nat.lt_of_lt_of_le (Nat.lt_succ_self _) (Nat.le_of_ble_eq_true rfl)) (lv' := [(10, .int s0), (3, .int v3), (4, .int v4), (5, .int v5), (6, .ref v6), (7, .int v7), (8, .int v8), (9, .int v9)]) rfl ?_
    refine k_iload C 0 (pc := 100) dX7_many_100 rfl ?_
    refine k_if_ne C (pc := 102) (tgt := 108) dX7_many_102 (by decide) (fun c_102 => ?_) (fun c_102 => ?_)
    · have H := H.1 c_102
      refine k_lv (pc := 108) [1, 2, 3, 4, 5, 6, 7, 0] (lv' := [(3, .int v3), (4, .int v4), (5, .int v5), (6, .ref v6), (7, .int v7), (8, .int v8), (9, .int v9), (10, .int s0)]) rfl ?_
      exact B108 K63 hK63 v3 v4 v5 v6 v7 v8 v9 s0 H
    · have H := H.2 c_102
      refine k_iinc C (pc := 105) (k := 2) (v := v4 + (1 : Int32)) dX7_many_105 rfl rfl (Nat.lt_of_lt_of_le (Nat.lt_succ_self _) (Nat.le_of_ble_eq_true rfl)) (lv' := [(4, .int (v4 + (1 : Int32))), (10, .int s0), (3, .int v3), (5, .int v5), (6, .ref v6), (7, .int v7), (8, .int v8), (9, .int v9)]) rfl ?_
      refine k_lv (pc := 108) [2, 0, 3, 4, 5, 6, 7, 1] (lv' := [(3, .int v3), (4, .int (v4 + (1 : Int32))), (5, .int v5), (6, .ref v6), (7, .int v7), (8, .int v8), (9, .int v9), (10, .int s0)]) rfl ?_
      exact B108 K63 hK63 v3 (v4 + (1 : Int32)) v5 v6 v7 v8 v9 s0 H
  have B97 : ∀ (K63 : Int32 → Int32 → Int32 → Nat → Int32 → Int32 → Prop) (hK63 : ∀ (v3 : Int32) (v4 : Int32) (v5 : Int32) (v6 : Nat) (v7 : Int32) (v8 : Int32), K63 v3 v4 v5 v6 v7 v8 → Kf p l e { frames := 0, cells := 0, slots := 0, locals := 0 } s m args below meth c D (va_A ws0 s.heap.size) 11 0 0 (MQ below (QC D ws0 s.heap.size (PI (fun r w1 => w1 = ws0 ∧ Post r))) args s 0 0 (va_A ws0 s.heap.size)) ws0 63 [(3, .int v3), (4, .int v4), (5, .int v5), (6, .ref v6), (7, .int v7), (8, .int v8)] []) (v3 : Int32) (v4 : Int32) (v5 : Int32) (v6 : Nat) (v7 : Int32) (v8 : Int32) (v9 : Int32), wpX7_many_b97 mu Post K63 v3 v4 v5 v6 v7 v8 v9 → Kf p l e { frames := 0, cells := 0, slots := 0, locals := 0 } s m args below meth c D (va_A ws0 s.heap.size) 11 0 0 (MQ below (QC D ws0 s.heap.size (PI (fun r w1 => w1 = ws0 ∧ Post r))) args s 0 0 (va_A ws0 s.heap.size)) ws0 97 [(3, .int v3), (4, .int v4), (5, .int v5), (6, .ref v6), (7, .int v7), (8, .int v8), (9, .int v9)] [] := by
    intro K63 hK63 v3 v4 v5 v6 v7 v8 v9 H
    have H : wpX7_many_b98 mu Post K63 v3 v4 v5 v6 v7 v8 v9 (0 : Int32) := H
    refine k_iconst C (pc := 97) (v := (0 : Int32)) dX7_many_97 rfl ?_
    refine k_lv (pc := 98) [0, 1, 2, 3, 4, 5, 6] (lv' := [(3, .int v3), (4, .int v4), (5, .int v5), (6, .ref v6), (7, .int v7), (8, .int v8), (9, .int v9)]) rfl ?_
    exact B98 K63 hK63 v3 v4 v5 v6 v7 v8 v9 (0 : Int32) H
  have B63 : ∀  (n : Nat) (v3 : Int32) (v4 : Int32) (v5 : Int32) (v6 : Nat) (v7 : Int32) (v8 : Int32), wpX7_many_L63 mu Post  n v3 v4 v5 v6 v7 v8 → Kf p l e { frames := 0, cells := 0, slots := 0, locals := 0 } s m args below meth c D (va_A ws0 s.heap.size) 11 0 0 (MQ below (QC D ws0 s.heap.size (PI (fun r w1 => w1 = ws0 ∧ Post r))) args s 0 0 (va_A ws0 s.heap.size)) ws0 63 [(3, .int v3), (4, .int v4), (5, .int v5), (6, .ref v6), (7, .int v7), (8, .int v8)] [] := by
    intro  n
    induction n with
    | zero =>
      intro v3 v4 v5 v6 v7 v8 H
      exact H.elim
    | succ nn63 ih63 =>
      intro v3 v4 v5 v6 v7 v8 H
      have H : (v7 ≤ v8 → Post v4) ∧ (¬ v7 ≤ v8 → ∃ n7 f7 k7, mI mu v6 = some (n7, f7) ∧ v8 = nI k7 ∧ k7 < n7 ∧ n7 ≤ 1000 ∧ (v4 ≤ 0 → wpX7_many_b97 mu Post (wpX7_many_L63 mu Post  nn63) v3 v4 v5 v6 v7 v8 (f7 k7)) ∧ (¬ v4 ≤ 0 → (v3 < ((v5 + (1 : Int32)) + (f7 k7)) → wpX7_many_b97 mu Post (wpX7_many_L63 mu Post  nn63) v3 v4 v5 v6 v7 v8 (f7 k7)) ∧ (¬ v3 < ((v5 + (1 : Int32)) + (f7 k7)) → wpX7_many_b98 mu Post (wpX7_many_L63 mu Post  nn63) v3 v4 v5 v6 v7 v8 (f7 k7) (1 : Int32)))) := H
      refine k_iload C 5 (pc := 63) dX7_many_63 rfl ?_
      refine k_iload C 4 (pc := 65) dX7_many_65 rfl ?_
      refine k_icmp_ge C (pc := 67) (tgt := 133) dX7_many_67 (by decide) (fun c_67 => ?_) (fun c_67 => ?_)
      · have H := H.1 c_67
        refine k_iload C 1 (pc := 133) dX7_many_133 rfl ?_
        exact k_iret C (pc := 135) hr dX7_many_135 ⟨rfl, H⟩
      · have H := H.2 c_67
        refine k_aload C 3 (pc := 70) dX7_many_70 rfl ?_
        refine k_iload C 5 (pc := 72) dX7_many_72 rfl ?_
        obtain ⟨n7, f7, k7, hx_, hk_, hl_, hn_, H⟩ := H
        refine k_eq (pc := 74) (st' := [.int (nI k7), .ref v6]) rfl rfl (by rw [hk_]) ?_
        refine l_iald C hR (pc := 74) hx_ hl_ hn_ dX7_many_74 ?_
        refine k_istore C (pc := 75) dX7_many_75 (Nat.lt_of_lt_of_le (Nat.lt_succ_self _) (Nat.le_of_ble_eq_true rfl)) (lv' := [(9, .int (f7 k7)), (3, .int v3), (4, .int v4), (5, .int v5), (6, .ref v6), (7, .int v7), (8, .int v8)]) rfl ?_
        refine k_iload C 2 (pc := 77) dX7_many_77 rfl ?_
        refine k_if_le C (pc := 79) (tgt := 97) dX7_many_79 (by decide) (fun c_79 => ?_) (fun c_79 => ?_)
        · have H := H.1 c_79
          refine k_lv (pc := 97) [1, 2, 3, 4, 5, 6, 0] (lv' := [(3, .int v3), (4, .int v4), (5, .int v5), (6, .ref v6), (7, .int v7), (8, .int v8), (9, .int (f7 k7))]) rfl ?_
          exact B97 (wpX7_many_L63 mu Post  nn63) ih63 v3 v4 v5 v6 v7 v8 (f7 k7) H
        · have H := H.2 c_79
          refine k_iload C 3 (pc := 82) dX7_many_82 rfl ?_
          refine k_iconst C (pc := 84) (v := (1 : Int32)) dX7_many_84 rfl ?_
          refine k_iadd C (pc := 85) dX7_many_85 ?_
          refine k_iload C 0 (pc := 86) dX7_many_86 rfl ?_
          refine k_iadd C (pc := 88) dX7_many_88 ?_
          refine k_iload_n C 1 (pc := 89) dX7_many_89 rfl rfl ?_
          refine k_icmp_gt C (pc := 90) (tgt := 97) dX7_many_90 (by decide) (fun c_90 => ?_) (fun c_90 => ?_)
          · have H := H.1 c_90
            refine k_lv (pc := 97) [1, 2, 3, 4, 5, 6, 0] (lv' := [(3, .int v3), (4, .int v4), (5, .int v5), (6, .ref v6), (7, .int v7), (8, .int v8), (9, .int (f7 k7))]) rfl ?_
            exact B97 (wpX7_many_L63 mu Post  nn63) ih63 v3 v4 v5 v6 v7 v8 (f7 k7) H
          · have H := H.2 c_90
            refine k_iconst C (pc := 93) (v := (1 : Int32)) dX7_many_93 rfl ?_
            refine k_goto C (pc := 94) (tgt := 98) dX7_many_94 (by decide) ?_
            refine k_lv (pc := 98) [1, 2, 3, 4, 5, 6, 0] (lv' := [(3, .int v3), (4, .int v4), (5, .int v5), (6, .ref v6), (7, .int v7), (8, .int v8), (9, .int (f7 k7))]) rfl ?_
            exact B98 (wpX7_many_L63 mu Post  nn63) ih63 v3 v4 v5 v6 v7 v8 (f7 k7) (1 : Int32) H
  have B37 : ∀  (v0 : Nat) (v1 : Int32) (s0 : Int32), wpX7_many_b37 mu Post  v0 v1 s0 → Kf p l e { frames := 0, cells := 0, slots := 0, locals := 0 } s m args below meth c D (va_A ws0 s.heap.size) 11 0 0 (MQ below (QC D ws0 s.heap.size (PI (fun r w1 => w1 = ws0 ∧ Post r))) args s 0 0 (va_A ws0 s.heap.size)) ws0 37 [(0, .ref v0), (1, .int v1)] [.int s0] := by
    intro  v0 v1 s0 H
    have H : ∃ x3, mB mu v0 = some x3 ∧ ∃ a3, x3.2.2.2.2.2.1 = some a3 ∧ ∃ n4 f4 k4, mQ mu a3 = some (2, n4, f4) ∧ v1 = nI k4 ∧ k4 < n4 ∧ n4 ≤ 1000 ∧ ∃ a4, f4 k4 = some a4 ∧ ∃ x5, mP mu a4 = some x5 ∧ ∃ a5, x5.2.2.2 = some a5 ∧ ∃ n6 f6, mI mu a5 = some (n6, f6) ∧ ∃ m_, wpX7_many_L63 mu Post  m_ s0 (0 : Int32) (0 : Int32) a5 (nI n6) (0 : Int32) := H
    refine k_istore_n C (pc := 37) dX7_many_37 rfl (Nat.lt_of_lt_of_le (Nat.lt_succ_self _) (Nat.le_of_ble_eq_true rfl)) (lv' := [(3, .int s0), (0, .ref v0), (1, .int v1)]) rfl ?_
    refine k_iconst C (pc := 38) (v := (0 : Int32)) dX7_many_38 rfl ?_
    refine k_istore C (pc := 39) dX7_many_39 (Nat.lt_of_lt_of_le (Nat.lt_succ_self _) (Nat.le_of_ble_eq_true rfl)) (lv' := [(4, .int (0 : Int32)), (3, .int s0), (0, .ref v0), (1, .int v1)]) rfl ?_
    refine k_iconst C (pc := 41) (v := (0 : Int32)) dX7_many_41 rfl ?_
    refine k_istore C (pc := 42) dX7_many_42 (Nat.lt_of_lt_of_le (Nat.lt_succ_self _) (Nat.le_of_ble_eq_true rfl)) (lv' := [(5, .int (0 : Int32)), (4, .int (0 : Int32)), (3, .int s0), (0, .ref v0), (1, .int v1)]) rfl ?_
    refine k_aload_n C 3 (pc := 44) dX7_many_44 rfl rfl ?_
    obtain ⟨x3, hx3, H⟩ := H
    obtain ⟨a3, ha3, H⟩ := H
    refine l_getB C hR (pc := 45) hx3 5 (Nat.lt_of_lt_of_le (Nat.lt_succ_self _) (Nat.le_of_ble_eq_true rfl)) (ref := "WidowWatchLaw$Book") tW_2_72 rfl (v := .ref a3) (by show some (va_rf x3.2.2.2.2.2.1) = _; rw [ha3]; rfl) dX7_many_45 ?_
    refine k_iload_n C 4 (pc := 48) dX7_many_48 rfl rfl ?_
    obtain ⟨n4, f4, k4, hx_, hk_, hl_, hn_, H⟩ := H
    refine k_eq (pc := 49) (st' := [.int (nI k4), .ref a3]) rfl rfl (by rw [hk_]) ?_
    obtain ⟨a4, ha4, H⟩ := H
    refine l_aald C hR (pc := 49) (Or.inl rfl) hx_ hl_ hn_ dX7_many_49 ?_
    refine k_eq (pc := 50) (st' := [.ref a4]) rfl rfl (by rw [ha4]; rfl) ?_
    obtain ⟨x5, hx5, H⟩ := H
    obtain ⟨a5, ha5, H⟩ := H
    refine l_getP C hR (pc := 50) hx5 3 (Nat.lt_of_lt_of_le (Nat.lt_succ_self _) (Nat.le_of_ble_eq_true rfl)) (ref := "WidowWatchLaw$Para") tW_2_132 rfl (v := .ref a5) (by show some (va_rf x5.2.2.2) = _; rw [ha5]; rfl) dX7_many_50 ?_
    refine k_astore C (pc := 53) dX7_many_53 (Nat.lt_of_lt_of_le (Nat.lt_succ_self _) (Nat.le_of_ble_eq_true rfl)) (lv' := [(6, .ref a5), (5, .int (0 : Int32)), (4, .int (0 : Int32)), (3, .int s0), (0, .ref v0), (1, .int v1)]) rfl ?_
    refine k_aload C 0 (pc := 55) dX7_many_55 rfl ?_
    obtain ⟨n6, f6, hx_, H⟩ := H
    refine l_alen C hR (pc := 57) hx_ dX7_many_57 ?_
    refine k_istore C (pc := 58) dX7_many_58 (Nat.lt_of_lt_of_le (Nat.lt_succ_self _) (Nat.le_of_ble_eq_true rfl)) (lv' := [(7, .int (nI n6)), (6, .ref a5), (5, .int (0 : Int32)), (4, .int (0 : Int32)), (3, .int s0), (0, .ref v0), (1, .int v1)]) rfl ?_
    refine k_iconst C (pc := 60) (v := (0 : Int32)) dX7_many_60 rfl ?_
    refine k_istore C (pc := 61) dX7_many_61 (Nat.lt_of_lt_of_le (Nat.lt_succ_self _) (Nat.le_of_ble_eq_true rfl)) (lv' := [(8, .int (0 : Int32)), (7, .int (nI n6)), (6, .ref a5), (5, .int (0 : Int32)), (4, .int (0 : Int32)), (3, .int s0), (0, .ref v0), (1, .int v1)]) rfl ?_
    obtain ⟨n_, H⟩ := H
    refine k_lv (pc := 63) [5, 4, 3, 2, 1, 0] (lv' := [(3, .int s0), (4, .int (0 : Int32)), (5, .int (0 : Int32)), (6, .ref a5), (7, .int (nI n6)), (8, .int (0 : Int32))]) rfl ?_
    exact B63  n_ s0 (0 : Int32) (0 : Int32) a5 (nI n6) (0 : Int32) H
  refine k_eq (ws' := ws0) (lv' := [(0, .ref v0), (1, .int v1), (2, .int v2)]) (st' := []) rfl rfl rfl ?_
  have H : (¬ v2 = 0 → (¬ v2 = (1 : Int32) → ∃ x1, mB mu v0 = some x1 ∧ ∃ x2, mB mu v0 = some x2 ∧ wpX7_many_b37 mu Post  v0 v1 (x1.1 - x2.2.2.1)) ∧ (v2 = (1 : Int32) → ∃ x8, mB mu v0 = some x8 ∧ ∃ x9, mB mu v0 = some x9 ∧ wpX7_many_b37 mu Post  v0 v1 (x8.1 + x9.2.2.1))) ∧ (v2 = 0 → ∃ x10, mB mu v0 = some x10 ∧ wpX7_many_b37 mu Post  v0 v1 x10.1) := H
  refine k_iload_n C 2 (pc := 0) dX7_many_0 rfl rfl ?_
  refine k_if_ne C (pc := 1) (tgt := 11) dX7_many_1 (by decide) (fun c_1 => ?_) (fun c_1 => ?_)
  · have H := H.1 c_1
    refine k_iload_n C 2 (pc := 11) dX7_many_11 rfl rfl ?_
    refine k_iconst C (pc := 12) (v := (1 : Int32)) dX7_many_12 rfl ?_
    refine k_icmp_ne C (pc := 13) (tgt := 28) dX7_many_13 (by decide) (fun c_13 => ?_) (fun c_13 => ?_)
    · have H := H.1 c_13
      refine k_aload_n C 0 (pc := 28) dX7_many_28 rfl rfl ?_
      obtain ⟨x1, hx1, H⟩ := H
      refine l_getB C hR (pc := 29) hx1 0 (Nat.lt_of_lt_of_le (Nat.lt_succ_self _) (Nat.le_of_ble_eq_true rfl)) (ref := "WidowWatchLaw$Book") tW_2_62 rfl (v := .int x1.1) rfl dX7_many_29 ?_
      refine k_aload_n C 0 (pc := 32) dX7_many_32 rfl rfl ?_
      obtain ⟨x2, hx2, H⟩ := H
      refine l_getB C hR (pc := 33) hx2 2 (Nat.lt_of_lt_of_le (Nat.lt_succ_self _) (Nat.le_of_ble_eq_true rfl)) (ref := "WidowWatchLaw$Book") tW_2_66 rfl (v := .int x2.2.2.1) rfl dX7_many_33 ?_
      refine k_isub C (pc := 36) dX7_many_36 ?_
      refine k_lv (pc := 37) [0, 1] (lv' := [(0, .ref v0), (1, .int v1)]) rfl ?_
      exact B37  v0 v1 (x1.1 - x2.2.2.1) H
    · have H := H.2 c_13
      refine k_aload_n C 0 (pc := 16) dX7_many_16 rfl rfl ?_
      obtain ⟨x8, hx8, H⟩ := H
      refine l_getB C hR (pc := 17) hx8 0 (Nat.lt_of_lt_of_le (Nat.lt_succ_self _) (Nat.le_of_ble_eq_true rfl)) (ref := "WidowWatchLaw$Book") tW_2_62 rfl (v := .int x8.1) rfl dX7_many_17 ?_
      refine k_aload_n C 0 (pc := 20) dX7_many_20 rfl rfl ?_
      obtain ⟨x9, hx9, H⟩ := H
      refine l_getB C hR (pc := 21) hx9 2 (Nat.lt_of_lt_of_le (Nat.lt_succ_self _) (Nat.le_of_ble_eq_true rfl)) (ref := "WidowWatchLaw$Book") tW_2_66 rfl (v := .int x9.2.2.1) rfl dX7_many_21 ?_
      refine k_iadd C (pc := 24) dX7_many_24 ?_
      refine k_goto C (pc := 25) (tgt := 37) dX7_many_25 (by decide) ?_
      refine k_lv (pc := 37) [0, 1] (lv' := [(0, .ref v0), (1, .int v1)]) rfl ?_
      exact B37  v0 v1 (x8.1 + x9.2.2.1) H
  · have H := H.2 c_1
    refine k_aload_n C 0 (pc := 4) dX7_many_4 rfl rfl ?_
    obtain ⟨x10, hx10, H⟩ := H
    refine l_getB C hR (pc := 5) hx10 0 (Nat.lt_of_lt_of_le (Nat.lt_succ_self _) (Nat.le_of_ble_eq_true rfl)) (ref := "WidowWatchLaw$Book") tW_2_62 rfl (v := .int x10.1) rfl dX7_many_5 ?_
    refine k_goto C (pc := 8) (tgt := 37) dX7_many_8 (by decide) ?_
    refine k_lv (pc := 37) [0, 1] (lv' := [(0, .ref v0), (1, .int v1)]) rfl ?_
    exact B37  v0 v1 x10.1 H
/-! WidowWatchLaw$Book.beginning(III)I -/
theorem dX7_beginning_0 : decode cX7_beginning 0 = .ok (.iload_n 2, 1) := by decide +kernel
theorem dX7_beginning_1 : decode cX7_beginning 1 = .ok (.iconst 1, 1) := by decide +kernel
theorem dX7_beginning_2 : decode cX7_beginning 2 = .ok (.if_icmp .ne 12, 3) := by decide +kernel
theorem dX7_beginning_5 : decode cX7_beginning 5 = .ok (.aload_n 0, 1) := by decide +kernel
theorem dX7_beginning_6 : decode cX7_beginning 6 = .ok (.getfield 22, 3) := by decide +kernel
theorem dX7_beginning_9 : decode cX7_beginning 9 = .ok (.iconst 4, 1) := by decide +kernel
theorem dX7_beginning_10 : decode cX7_beginning 10 = .ok (.iaload, 1) := by decide +kernel
theorem dX7_beginning_11 : decode cX7_beginning 11 = .ok (.goto 4, 3) := by decide +kernel
theorem dX7_beginning_14 : decode cX7_beginning 14 = .ok (.iconst 0, 1) := by decide +kernel
theorem dX7_beginning_15 : decode cX7_beginning 15 = .ok (.istore 4, 2) := by decide +kernel
theorem dX7_beginning_17 : decode cX7_beginning 17 = .ok (.iload_n 3, 1) := by decide +kernel
theorem dX7_beginning_18 : decode cX7_beginning 18 = .ok (.iconst 1, 1) := by decide +kernel
theorem dX7_beginning_19 : decode cX7_beginning 19 = .ok (.if_icmp .le 21, 3) := by decide +kernel
theorem dX7_beginning_22 : decode cX7_beginning 22 = .ok (.iload_n 2, 1) := by decide +kernel
theorem dX7_beginning_23 : decode cX7_beginning 23 = .ok (.iload_n 3, 1) := by decide +kernel
theorem dX7_beginning_24 : decode cX7_beginning 24 = .ok (.iconst 1, 1) := by decide +kernel
theorem dX7_beginning_25 : decode cX7_beginning 25 = .ok (.isub, 1) := by decide +kernel
theorem dX7_beginning_26 : decode cX7_beginning 26 = .ok (.if_icmp .ne 14, 3) := by decide +kernel
theorem dX7_beginning_29 : decode cX7_beginning 29 = .ok (.iload 4, 2) := by decide +kernel
theorem dX7_beginning_31 : decode cX7_beginning 31 = .ok (.aload_n 0, 1) := by decide +kernel
theorem dX7_beginning_32 : decode cX7_beginning 32 = .ok (.getfield 22, 3) := by decide +kernel
theorem dX7_beginning_35 : decode cX7_beginning 35 = .ok (.iconst 3, 1) := by decide +kernel
theorem dX7_beginning_36 : decode cX7_beginning 36 = .ok (.iaload, 1) := by decide +kernel
theorem dX7_beginning_37 : decode cX7_beginning 37 = .ok (.iadd, 1) := by decide +kernel
theorem dX7_beginning_38 : decode cX7_beginning 38 = .ok (.istore 4, 2) := by decide +kernel
theorem dX7_beginning_40 : decode cX7_beginning 40 = .ok (.iload_n 2, 1) := by decide +kernel
theorem dX7_beginning_41 : decode cX7_beginning 41 = .ok (.ifCond .ne 32, 3) := by decide +kernel
theorem dX7_beginning_44 : decode cX7_beginning 44 = .ok (.iload_n 1, 1) := by decide +kernel
theorem dX7_beginning_45 : decode cX7_beginning 45 = .ok (.ifCond .le 28, 3) := by decide +kernel
theorem dX7_beginning_48 : decode cX7_beginning 48 = .ok (.aload_n 0, 1) := by decide +kernel
theorem dX7_beginning_49 : decode cX7_beginning 49 = .ok (.getfield 28, 3) := by decide +kernel
theorem dX7_beginning_52 : decode cX7_beginning 52 = .ok (.iload_n 1, 1) := by decide +kernel
theorem dX7_beginning_53 : decode cX7_beginning 53 = .ok (.iconst 1, 1) := by decide +kernel
theorem dX7_beginning_54 : decode cX7_beginning 54 = .ok (.isub, 1) := by decide +kernel
theorem dX7_beginning_55 : decode cX7_beginning 55 = .ok (.aaload, 1) := by decide +kernel
theorem dX7_beginning_56 : decode cX7_beginning 56 = .ok (.getfield 54, 3) := by decide +kernel
theorem dX7_beginning_59 : decode cX7_beginning 59 = .ok (.ifCond .eq 14, 3) := by decide +kernel
theorem dX7_beginning_62 : decode cX7_beginning 62 = .ok (.iload 4, 2) := by decide +kernel
theorem dX7_beginning_64 : decode cX7_beginning 64 = .ok (.aload_n 0, 1) := by decide +kernel
theorem dX7_beginning_65 : decode cX7_beginning 65 = .ok (.getfield 22, 3) := by decide +kernel
theorem dX7_beginning_68 : decode cX7_beginning 68 = .ok (.iconst 5, 1) := by decide +kernel
theorem dX7_beginning_69 : decode cX7_beginning 69 = .ok (.iaload, 1) := by decide +kernel
theorem dX7_beginning_70 : decode cX7_beginning 70 = .ok (.iadd, 1) := by decide +kernel
theorem dX7_beginning_71 : decode cX7_beginning 71 = .ok (.istore 4, 2) := by decide +kernel
theorem dX7_beginning_73 : decode cX7_beginning 73 = .ok (.iload 4, 2) := by decide +kernel
theorem dX7_beginning_75 : decode cX7_beginning 75 = .ok (.ireturn, 1) := by decide +kernel
theorem okX7_beginning : okY yX7_beginning 3 := ⟨by decide +kernel, by decide +kernel, by decide +kernel⟩
def wpX7_beginning_b40 (mu : Mu) (Post : Int32 → Prop)  (v0 : Nat) (v1 : Int32) (v2 : Int32) (v4 : Int32) : Prop := (¬ v2 = 0 → Post v4) ∧ (v2 = 0 → (v1 ≤ 0 → Post v4) ∧ (¬ v1 ≤ 0 → ∃ x1, mB mu v0 = some x1 ∧ ∃ a1, x1.2.2.2.2.2.1 = some a1 ∧ ∃ n2 f2 k2, mQ mu a1 = some (2, n2, f2) ∧ v1 - (1 : Int32) = nI k2 ∧ k2 < n2 ∧ n2 ≤ 1000 ∧ ∃ a2, f2 k2 = some a2 ∧ ∃ x3, mP mu a2 = some x3 ∧ (x3.1 = 0 → Post v4) ∧ (¬ x3.1 = 0 → ∃ x4, mB mu v0 = some x4 ∧ ∃ a4, x4.2.2.2.2.1 = some a4 ∧ ∃ n5 f5 k5, mI mu a4 = some (n5, f5) ∧ (5 : Int32) = nI k5 ∧ k5 < n5 ∧ n5 ≤ 1000 ∧ Post (v4 + (f5 k5)))))
def wpX7_beginning_b15 (mu : Mu) (Post : Int32 → Prop)  (v0 : Nat) (v1 : Int32) (v2 : Int32) (v3 : Int32) (s0 : Int32) : Prop := (v3 ≤ (1 : Int32) → wpX7_beginning_b40 mu Post  v0 v1 v2 s0) ∧ (¬ v3 ≤ (1 : Int32) → (¬ v2 = (v3 - (1 : Int32)) → wpX7_beginning_b40 mu Post  v0 v1 v2 s0) ∧ (v2 = (v3 - (1 : Int32)) → ∃ x6, mB mu v0 = some x6 ∧ ∃ a6, x6.2.2.2.2.1 = some a6 ∧ ∃ n7 f7 k7, mI mu a6 = some (n7, f7) ∧ (3 : Int32) = nI k7 ∧ k7 < n7 ∧ n7 ≤ 1000 ∧ wpX7_beginning_b40 mu Post  v0 v1 v2 (s0 + (f7 k7))))
def wpX7_beginning (mu : Mu) (v0 : Nat) (v1 : Int32) (v2 : Int32) (v3 : Int32) (Post : Int32 → Prop) : Prop := (¬ v2 = (1 : Int32) → wpX7_beginning_b15 mu Post  v0 v1 v2 v3 (0 : Int32)) ∧ (v2 = (1 : Int32) → ∃ x8, mB mu v0 = some x8 ∧ ∃ a8, x8.2.2.2.2.1 = some a8 ∧ ∃ n9 f9 k9, mI mu a8 = some (n9, f9) ∧ (4 : Int32) = nI k9 ∧ k9 < n9 ∧ n9 ≤ 1000 ∧ wpX7_beginning_b15 mu Post  v0 v1 v2 v3 (f9 k9))
set_option maxHeartbeats 4000000 in
set_option maxRecDepth 100000 in
theorem conX7_beginning (l : Launch) (D : va_G) (cA : Nat → ClassId) (mu : Mu) (v0 : Nat) (v1 : Int32) (v2 : Int32) (v3 : Int32) (Post : Int32 → Prop)  (H : wpX7_beginning mu v0 v1 v2 v3 Post) {w0 ws0 : va_W} (hR : LR cA w0 ws0 mu) : ConN l D cA yX7_beginning (wm yX7_beginning cX7_beginning 5 (some .int)) { frames := 0, cells := 0, slots := 0, locals := 0 } ws0 [.ref v0, .int v1, .int v2, .int v3] 0 0 (PI (fun r w1 => w1 = ws0 ∧ Post r)) := by
  refine ConN.of (by decide) (Nat.le_of_ble_eq_true rfl) ?_
  intro p e s m args below meth c C hF hr hini
  have B40 : ∀  (v0 : Nat) (v1 : Int32) (v2 : Int32) (v4 : Int32), wpX7_beginning_b40 mu Post  v0 v1 v2 v4 → Kf p l e { frames := 0, cells := 0, slots := 0, locals := 0 } s m args below meth c D (va_A ws0 s.heap.size) 5 0 0 (MQ below (QC D ws0 s.heap.size (PI (fun r w1 => w1 = ws0 ∧ Post r))) args s 0 0 (va_A ws0 s.heap.size)) ws0 40 [(0, .ref v0), (1, .int v1), (2, .int v2), (4, .int v4)] [] := by
    intro  v0 v1 v2 v4 H
    have H : (¬ v2 = 0 → Post v4) ∧ (v2 = 0 → (v1 ≤ 0 → Post v4) ∧ (¬ v1 ≤ 0 → ∃ x1, mB mu v0 = some x1 ∧ ∃ a1, x1.2.2.2.2.2.1 = some a1 ∧ ∃ n2 f2 k2, mQ mu a1 = some (2, n2, f2) ∧ v1 - (1 : Int32) = nI k2 ∧ k2 < n2 ∧ n2 ≤ 1000 ∧ ∃ a2, f2 k2 = some a2 ∧ ∃ x3, mP mu a2 = some x3 ∧ (x3.1 = 0 → Post v4) ∧ (¬ x3.1 = 0 → ∃ x4, mB mu v0 = some x4 ∧ ∃ a4, x4.2.2.2.2.1 = some a4 ∧ ∃ n5 f5 k5, mI mu a4 = some (n5, f5) ∧ (5 : Int32) = nI k5 ∧ k5 < n5 ∧ n5 ≤ 1000 ∧ Post (v4 + (f5 k5))))) := H
    refine k_iload_n C 2 (pc := 40) dX7_beginning_40 rfl rfl ?_
    refine k_if_ne C (pc := 41) (tgt := 73) dX7_beginning_41 (by decide) (fun c_41 => ?_) (fun c_41 => ?_)
    · have H := H.1 c_41
      refine k_iload C 3 (pc := 73) dX7_beginning_73 rfl ?_
      exact k_iret C (pc := 75) hr dX7_beginning_75 ⟨rfl, H⟩
    · have H := H.2 c_41
      refine k_iload_n C 1 (pc := 44) dX7_beginning_44 rfl rfl ?_
      refine k_if_le C (pc := 45) (tgt := 73) dX7_beginning_45 (by decide) (fun c_45 => ?_) (fun c_45 => ?_)
      · have H := H.1 c_45
        refine k_iload C 3 (pc := 73) dX7_beginning_73 rfl ?_
        exact k_iret C (pc := 75) hr dX7_beginning_75 ⟨rfl, H⟩
      · have H := H.2 c_45
        refine k_aload_n C 0 (pc := 48) dX7_beginning_48 rfl rfl ?_
        obtain ⟨x1, hx1, H⟩ := H
        obtain ⟨a1, ha1, H⟩ := H
        refine l_getB C hR (pc := 49) hx1 5 (Nat.lt_of_lt_of_le (Nat.lt_succ_self _) (Nat.le_of_ble_eq_true rfl)) (ref := "WidowWatchLaw$Book") tW_2_72 rfl (v := .ref a1) (by show some (va_rf x1.2.2.2.2.2.1) = _; rw [ha1]; rfl) dX7_beginning_49 ?_
        refine k_iload_n C 1 (pc := 52) dX7_beginning_52 rfl rfl ?_
        refine k_iconst C (pc := 53) (v := (1 : Int32)) dX7_beginning_53 rfl ?_
        refine k_isub C (pc := 54) dX7_beginning_54 ?_
        obtain ⟨n2, f2, k2, hx_, hk_, hl_, hn_, H⟩ := H
        refine k_eq (pc := 55) (st' := [.int (nI k2), .ref a1]) rfl rfl (by rw [hk_]) ?_
        obtain ⟨a2, ha2, H⟩ := H
        refine l_aald C hR (pc := 55) (Or.inl rfl) hx_ hl_ hn_ dX7_beginning_55 ?_
        refine k_eq (pc := 56) (st' := [.ref a2]) rfl rfl (by rw [ha2]; rfl) ?_
        obtain ⟨x3, hx3, H⟩ := H
        refine l_getP C hR (pc := 56) hx3 0 (Nat.lt_of_lt_of_le (Nat.lt_succ_self _) (Nat.le_of_ble_eq_true rfl)) (ref := "WidowWatchLaw$Para") tW_2_123 rfl (v := .int x3.1) rfl dX7_beginning_56 ?_
        refine k_if_eq C (pc := 59) (tgt := 73) dX7_beginning_59 (by decide) (fun c_59 => ?_) (fun c_59 => ?_)
        · have H := H.1 c_59
          refine k_iload C 3 (pc := 73) dX7_beginning_73 rfl ?_
          exact k_iret C (pc := 75) hr dX7_beginning_75 ⟨rfl, H⟩
        · have H := H.2 c_59
          refine k_iload C 3 (pc := 62) dX7_beginning_62 rfl ?_
          refine k_aload_n C 0 (pc := 64) dX7_beginning_64 rfl rfl ?_
          obtain ⟨x4, hx4, H⟩ := H
          obtain ⟨a4, ha4, H⟩ := H
          refine l_getB C hR (pc := 65) hx4 4 (Nat.lt_of_lt_of_le (Nat.lt_succ_self _) (Nat.le_of_ble_eq_true rfl)) (ref := "WidowWatchLaw$Book") tW_2_70 rfl (v := .ref a4) (by show some (va_rf x4.2.2.2.2.1) = _; rw [ha4]; rfl) dX7_beginning_65 ?_
          refine k_iconst C (pc := 68) (v := (5 : Int32)) dX7_beginning_68 rfl ?_
          obtain ⟨n5, f5, k5, hx_, hk_, hl_, hn_, H⟩ := H
          refine k_eq (pc := 69) (st' := [.int (nI k5), .ref a4, .int v4]) rfl rfl (by rw [hk_]) ?_
          refine l_iald C hR (pc := 69) hx_ hl_ hn_ dX7_beginning_69 ?_
          refine k_iadd C (pc := 70) dX7_beginning_70 ?_
          refine k_istore C (pc := 71) dX7_beginning_71 (Nat.lt_of_lt_of_le (Nat.lt_succ_self _) (Nat.le_of_ble_eq_true rfl)) (lv' := [(4, .int (v4 + (f5 k5))), (0, .ref v0), (1, .int v1), (2, .int v2)]) rfl ?_
          refine k_iload C 0 (pc := 73) dX7_beginning_73 rfl ?_
          exact k_iret C (pc := 75) hr dX7_beginning_75 ⟨rfl, H⟩
  have B15 : ∀  (v0 : Nat) (v1 : Int32) (v2 : Int32) (v3 : Int32) (s0 : Int32), wpX7_beginning_b15 mu Post  v0 v1 v2 v3 s0 → Kf p l e { frames := 0, cells := 0, slots := 0, locals := 0 } s m args below meth c D (va_A ws0 s.heap.size) 5 0 0 (MQ below (QC D ws0 s.heap.size (PI (fun r w1 => w1 = ws0 ∧ Post r))) args s 0 0 (va_A ws0 s.heap.size)) ws0 15 [(0, .ref v0), (1, .int v1), (2, .int v2), (3, .int v3)] [.int s0] := by
    intro  v0 v1 v2 v3 s0 H
    have H : (v3 ≤ (1 : Int32) → wpX7_beginning_b40 mu Post  v0 v1 v2 s0) ∧ (¬ v3 ≤ (1 : Int32) → (¬ v2 = (v3 - (1 : Int32)) → wpX7_beginning_b40 mu Post  v0 v1 v2 s0) ∧ (v2 = (v3 - (1 : Int32)) → ∃ x6, mB mu v0 = some x6 ∧ ∃ a6, x6.2.2.2.2.1 = some a6 ∧ ∃ n7 f7 k7, mI mu a6 = some (n7, f7) ∧ (3 : Int32) = nI k7 ∧ k7 < n7 ∧ n7 ≤ 1000 ∧ wpX7_beginning_b40 mu Post  v0 v1 v2 (s0 + (f7 k7)))) := H
    refine k_istore C (pc := 15) dX7_beginning_15 (Nat.lt_of_lt_of_le (Nat.lt_succ_self _) (Nat.le_of_ble_eq_true rfl)) (lv' := [(4, .int s0), (0, .ref v0), (1, .int v1), (2, .int v2), (3, .int v3)]) rfl ?_
    refine k_iload_n C 4 (pc := 17) dX7_beginning_17 rfl rfl ?_
    refine k_iconst C (pc := 18) (v := (1 : Int32)) dX7_beginning_18 rfl ?_
    refine k_icmp_le C (pc := 19) (tgt := 40) dX7_beginning_19 (by decide) (fun c_19 => ?_) (fun c_19 => ?_)
    · have H := H.1 c_19
      refine k_lv (pc := 40) [1, 2, 3, 0] (lv' := [(0, .ref v0), (1, .int v1), (2, .int v2), (4, .int s0)]) rfl ?_
      exact B40  v0 v1 v2 s0 H
    · have H := H.2 c_19
      refine k_iload_n C 3 (pc := 22) dX7_beginning_22 rfl rfl ?_
      refine k_iload_n C 4 (pc := 23) dX7_beginning_23 rfl rfl ?_
      refine k_iconst C (pc := 24) (v := (1 : Int32)) dX7_beginning_24 rfl ?_
      refine k_isub C (pc := 25) dX7_beginning_25 ?_
      refine k_icmp_ne C (pc := 26) (tgt := 40) dX7_beginning_26 (by decide) (fun c_26 => ?_) (fun c_26 => ?_)
      · have H := H.1 c_26
        refine k_lv (pc := 40) [1, 2, 3, 0] (lv' := [(0, .ref v0), (1, .int v1), (2, .int v2), (4, .int s0)]) rfl ?_
        exact B40  v0 v1 v2 s0 H
      · have H := H.2 c_26
        refine k_iload C 0 (pc := 29) dX7_beginning_29 rfl ?_
        refine k_aload_n C 1 (pc := 31) dX7_beginning_31 rfl rfl ?_
        obtain ⟨x6, hx6, H⟩ := H
        obtain ⟨a6, ha6, H⟩ := H
        refine l_getB C hR (pc := 32) hx6 4 (Nat.lt_of_lt_of_le (Nat.lt_succ_self _) (Nat.le_of_ble_eq_true rfl)) (ref := "WidowWatchLaw$Book") tW_2_70 rfl (v := .ref a6) (by show some (va_rf x6.2.2.2.2.1) = _; rw [ha6]; rfl) dX7_beginning_32 ?_
        refine k_iconst C (pc := 35) (v := (3 : Int32)) dX7_beginning_35 rfl ?_
        obtain ⟨n7, f7, k7, hx_, hk_, hl_, hn_, H⟩ := H
        refine k_eq (pc := 36) (st' := [.int (nI k7), .ref a6, .int s0]) rfl rfl (by rw [hk_]) ?_
        refine l_iald C hR (pc := 36) hx_ hl_ hn_ dX7_beginning_36 ?_
        refine k_iadd C (pc := 37) dX7_beginning_37 ?_
        refine k_istore C (pc := 38) dX7_beginning_38 (Nat.lt_of_lt_of_le (Nat.lt_succ_self _) (Nat.le_of_ble_eq_true rfl)) (lv' := [(4, .int (s0 + (f7 k7))), (0, .ref v0), (1, .int v1), (2, .int v2), (3, .int v3)]) rfl ?_
        refine k_lv (pc := 40) [1, 2, 3, 0] (lv' := [(0, .ref v0), (1, .int v1), (2, .int v2), (4, .int (s0 + (f7 k7)))]) rfl ?_
        exact B40  v0 v1 v2 (s0 + (f7 k7)) H
  refine k_eq (ws' := ws0) (lv' := [(0, .ref v0), (1, .int v1), (2, .int v2), (3, .int v3)]) (st' := []) rfl rfl rfl ?_
  have H : (¬ v2 = (1 : Int32) → wpX7_beginning_b15 mu Post  v0 v1 v2 v3 (0 : Int32)) ∧ (v2 = (1 : Int32) → ∃ x8, mB mu v0 = some x8 ∧ ∃ a8, x8.2.2.2.2.1 = some a8 ∧ ∃ n9 f9 k9, mI mu a8 = some (n9, f9) ∧ (4 : Int32) = nI k9 ∧ k9 < n9 ∧ n9 ≤ 1000 ∧ wpX7_beginning_b15 mu Post  v0 v1 v2 v3 (f9 k9)) := H
  refine k_iload_n C 2 (pc := 0) dX7_beginning_0 rfl rfl ?_
  refine k_iconst C (pc := 1) (v := (1 : Int32)) dX7_beginning_1 rfl ?_
  refine k_icmp_ne C (pc := 2) (tgt := 14) dX7_beginning_2 (by decide) (fun c_2 => ?_) (fun c_2 => ?_)
  · have H := H.1 c_2
    refine k_iconst C (pc := 14) (v := (0 : Int32)) dX7_beginning_14 rfl ?_
    refine k_lv (pc := 15) [0, 1, 2, 3] (lv' := [(0, .ref v0), (1, .int v1), (2, .int v2), (3, .int v3)]) rfl ?_
    exact B15  v0 v1 v2 v3 (0 : Int32) H
  · have H := H.2 c_2
    refine k_aload_n C 0 (pc := 5) dX7_beginning_5 rfl rfl ?_
    obtain ⟨x8, hx8, H⟩ := H
    obtain ⟨a8, ha8, H⟩ := H
    refine l_getB C hR (pc := 6) hx8 4 (Nat.lt_of_lt_of_le (Nat.lt_succ_self _) (Nat.le_of_ble_eq_true rfl)) (ref := "WidowWatchLaw$Book") tW_2_70 rfl (v := .ref a8) (by show some (va_rf x8.2.2.2.2.1) = _; rw [ha8]; rfl) dX7_beginning_6 ?_
    refine k_iconst C (pc := 9) (v := (4 : Int32)) dX7_beginning_9 rfl ?_
    obtain ⟨n9, f9, k9, hx_, hk_, hl_, hn_, H⟩ := H
    refine k_eq (pc := 10) (st' := [.int (nI k9), .ref a8]) rfl rfl (by rw [hk_]) ?_
    refine l_iald C hR (pc := 10) hx_ hl_ hn_ dX7_beginning_10 ?_
    refine k_goto C (pc := 11) (tgt := 15) dX7_beginning_11 (by decide) ?_
    refine k_lv (pc := 15) [0, 1, 2, 3] (lv' := [(0, .ref v0), (1, .int v1), (2, .int v2), (3, .int v3)]) rfl ?_
    exact B15  v0 v1 v2 v3 (f9 k9) H
/-! WidowWatchLaw$Book.place(LWidowWatchLaw$Plan;I)I -/
theorem dX7_place_0 : decode cX7_place 0 = .ok (.iload_n 2, 1) := by decide +kernel
theorem dX7_place_1 : decode cX7_place 1 = .ok (.istore_n 3, 1) := by decide +kernel
theorem dX7_place_2 : decode cX7_place 2 = .ok (.iconst 0, 1) := by decide +kernel
theorem dX7_place_3 : decode cX7_place 3 = .ok (.istore 4, 2) := by decide +kernel
theorem dX7_place_5 : decode cX7_place 5 = .ok (.iload 4, 2) := by decide +kernel
theorem dX7_place_7 : decode cX7_place 7 = .ok (.aload_n 0, 1) := by decide +kernel
theorem dX7_place_8 : decode cX7_place 8 = .ok (.getfield 28, 3) := by decide +kernel
theorem dX7_place_11 : decode cX7_place 11 = .ok (.arraylength, 1) := by decide +kernel
theorem dX7_place_12 : decode cX7_place 12 = .ok (.if_icmp .ge 43, 3) := by decide +kernel
theorem dX7_place_15 : decode cX7_place 15 = .ok (.aload_n 0, 1) := by decide +kernel
theorem dX7_place_16 : decode cX7_place 16 = .ok (.iload 4, 2) := by decide +kernel
theorem dX7_place_18 : decode cX7_place 18 = .ok (.aload_n 1, 1) := by decide +kernel
theorem dX7_place_19 : decode cX7_place 19 = .ok (.getfield 70, 3) := by decide +kernel
theorem dX7_place_22 : decode cX7_place 22 = .ok (.iload 4, 2) := by decide +kernel
theorem dX7_place_24 : decode cX7_place 24 = .ok (.iaload, 1) := by decide +kernel
theorem dX7_place_25 : decode cX7_place 25 = .ok (.invokevirtual 78, 3) := by decide +kernel
theorem dX7_place_28 : decode cX7_place 28 = .ok (.istore 5, 2) := by decide +kernel
theorem dX7_place_30 : decode cX7_place 30 = .ok (.iload_n 3, 1) := by decide +kernel
theorem dX7_place_31 : decode cX7_place 31 = .ok (.iload 5, 2) := by decide +kernel
theorem dX7_place_33 : decode cX7_place 33 = .ok (.if_icmp .ge 11, 3) := by decide +kernel
theorem dX7_place_36 : decode cX7_place 36 = .ok (.bipush 100, 2) := by decide +kernel
theorem dX7_place_38 : decode cX7_place 38 = .ok (.iload 4, 2) := by decide +kernel
theorem dX7_place_40 : decode cX7_place 40 = .ok (.imul, 1) := by decide +kernel
theorem dX7_place_41 : decode cX7_place 41 = .ok (.iload_n 3, 1) := by decide +kernel
theorem dX7_place_42 : decode cX7_place 42 = .ok (.iadd, 1) := by decide +kernel
theorem dX7_place_43 : decode cX7_place 43 = .ok (.ireturn, 1) := by decide +kernel
theorem dX7_place_44 : decode cX7_place 44 = .ok (.iload_n 3, 1) := by decide +kernel
theorem dX7_place_45 : decode cX7_place 45 = .ok (.iload 5, 2) := by decide +kernel
theorem dX7_place_47 : decode cX7_place 47 = .ok (.isub, 1) := by decide +kernel
theorem dX7_place_48 : decode cX7_place 48 = .ok (.istore_n 3, 1) := by decide +kernel
theorem dX7_place_49 : decode cX7_place 49 = .ok (.iinc 4 1, 3) := by decide +kernel
theorem dX7_place_52 : decode cX7_place 52 = .ok (.goto (-47), 3) := by decide +kernel
theorem dX7_place_55 : decode cX7_place 55 = .ok (.iconst (-1), 1) := by decide +kernel
theorem dX7_place_56 : decode cX7_place 56 = .ok (.ireturn, 1) := by decide +kernel
theorem okX7_place : okY yX7_place 2 := ⟨by decide +kernel, by decide +kernel, by decide +kernel⟩
def wpX7_place_L5 (mu : Mu) (Post : Int32 → Prop)  : Nat → Nat → Nat → Int32 → Int32 → Prop
  | 0 => fun _ _ _ _ => False
  | nn5 + 1 => fun v0 v1 v3 v4 => ∃ x1, mB mu v0 = some x1 ∧ ∃ a1, x1.2.2.2.2.2.1 = some a1 ∧ ∃ n2 f2, mQ mu a1 = some (2, n2, f2) ∧ ((nI n2) ≤ v4 → Post (-1 : Int32)) ∧ (¬ (nI n2) ≤ v4 → ∃ x3, mL mu v1 = some x3 ∧ ∃ a3, x3.2.1 = some a3 ∧ ∃ n4 f4 k4, mI mu a3 = some (n4, f4) ∧ v4 = nI k4 ∧ k4 < n4 ∧ n4 ≤ 1000 ∧ ∃ x5, mB mu v0 = some x5 ∧ wpX7_many mu v0 v4 (f4 k4) (fun r6 => (r6 ≤ v3 → (wpX7_place_L5 mu Post  nn5) v0 v1 (v3 - r6) (v4 + (1 : Int32))) ∧ (¬ r6 ≤ v3 → Post (((100 : Int32) * v4) + v3))))
def wpX7_place (mu : Mu) (v0 : Nat) (v1 : Nat) (v2 : Int32) (Post : Int32 → Prop) : Prop := ∃ m_, wpX7_place_L5 mu Post  m_ v0 v1 v2 (0 : Int32)
set_option maxHeartbeats 4000000 in
set_option maxRecDepth 100000 in
theorem conX7_place (l : Launch) (D : va_G) (cA : Nat → ClassId) (mu : Mu) (v0 : Nat) (v1 : Nat) (v2 : Int32) (Post : Int32 → Prop)  (H : wpX7_place mu v0 v1 v2 Post) {w0 ws0 : va_W} (hR : LR cA w0 ws0 mu) : ConN l D cA yX7_place (wm yX7_place cX7_place 6 (some .int)) { frames := 1, cells := 0, slots := 0, locals := 30 } ws0 [.ref v0, .ref v1, .int v2] 0 0 (PI (fun r w1 => w1 = ws0 ∧ Post r)) := by
  refine ConN.of (by decide) (Nat.le_of_ble_eq_true rfl) ?_
  intro p e s m args below meth c C hF hr hini
  have B5 : ∀  (n : Nat) (v0 : Nat) (v1 : Nat) (v3 : Int32) (v4 : Int32), wpX7_place_L5 mu Post  n v0 v1 v3 v4 → Kf p l e { frames := 1, cells := 0, slots := 0, locals := 30 } s m args below meth c D (va_A ws0 s.heap.size) 6 0 0 (MQ below (QC D ws0 s.heap.size (PI (fun r w1 => w1 = ws0 ∧ Post r))) args s 0 0 (va_A ws0 s.heap.size)) ws0 5 [(0, .ref v0), (1, .ref v1), (3, .int v3), (4, .int v4)] [] := by
    intro  n
    induction n with
    | zero =>
      intro v0 v1 v3 v4 H
      exact H.elim
    | succ nn5 ih5 =>
      intro v0 v1 v3 v4 H
      have H : ∃ x1, mB mu v0 = some x1 ∧ ∃ a1, x1.2.2.2.2.2.1 = some a1 ∧ ∃ n2 f2, mQ mu a1 = some (2, n2, f2) ∧ ((nI n2) ≤ v4 → Post (-1 : Int32)) ∧ (¬ (nI n2) ≤ v4 → ∃ x3, mL mu v1 = some x3 ∧ ∃ a3, x3.2.1 = some a3 ∧ ∃ n4 f4 k4, mI mu a3 = some (n4, f4) ∧ v4 = nI k4 ∧ k4 < n4 ∧ n4 ≤ 1000 ∧ ∃ x5, mB mu v0 = some x5 ∧ wpX7_many mu v0 v4 (f4 k4) (fun r6 => (r6 ≤ v3 → (wpX7_place_L5 mu Post  nn5) v0 v1 (v3 - r6) (v4 + (1 : Int32))) ∧ (¬ r6 ≤ v3 → Post (((100 : Int32) * v4) + v3)))) := H
      refine k_iload C 3 (pc := 5) dX7_place_5 rfl ?_
      refine k_aload_n C 0 (pc := 7) dX7_place_7 rfl rfl ?_
      obtain ⟨x1, hx1, H⟩ := H
      obtain ⟨a1, ha1, H⟩ := H
      refine l_getB C hR (pc := 8) hx1 5 (Nat.lt_of_lt_of_le (Nat.lt_succ_self _) (Nat.le_of_ble_eq_true rfl)) (ref := "WidowWatchLaw$Book") tW_2_72 rfl (v := .ref a1) (by show some (va_rf x1.2.2.2.2.2.1) = _; rw [ha1]; rfl) dX7_place_8 ?_
      obtain ⟨n2, f2, hx_, H⟩ := H
      refine l_alenQ C hR (pc := 11) (Or.inl rfl) hx_ dX7_place_11 ?_
      refine k_icmp_ge C (pc := 12) (tgt := 55) dX7_place_12 (by decide) (fun c_12 => ?_) (fun c_12 => ?_)
      · have H := H.1 c_12
        refine k_iconst C (pc := 55) (v := (-1 : Int32)) dX7_place_55 rfl ?_
        exact k_iret C (pc := 56) hr dX7_place_56 ⟨rfl, H⟩
      · have H := H.2 c_12
        refine k_aload_n C 0 (pc := 15) dX7_place_15 rfl rfl ?_
        refine k_iload C 3 (pc := 16) dX7_place_16 rfl ?_
        refine k_aload_n C 1 (pc := 18) dX7_place_18 rfl rfl ?_
        obtain ⟨x3, hx3, H⟩ := H
        obtain ⟨a3, ha3, H⟩ := H
        refine l_getL C hR (pc := 19) hx3 1 (Nat.lt_of_lt_of_le (Nat.lt_succ_self _) (Nat.le_of_ble_eq_true rfl)) (ref := "WidowWatchLaw$Plan") tW_6_93 rfl (v := .ref a3) (by show some (va_rf x3.2.1) = _; rw [ha3]; rfl) dX7_place_19 ?_
        refine k_iload C 3 (pc := 22) dX7_place_22 rfl ?_
        obtain ⟨n4, f4, k4, hx_, hk_, hl_, hn_, H⟩ := H
        refine k_eq (pc := 24) (st' := [.int (nI k4), .ref a3, .int v4, .ref v0]) rfl rfl (by rw [hk_]) ?_
        refine l_iald C hR (pc := 24) hx_ hl_ hn_ dX7_place_24 ?_
        obtain ⟨x5, hx5, H⟩ := H
        obtain ⟨i5, hi5⟩ := List.getElem?_of_mem (hR.B hx5)
        refine k_callAi C (pc := 25) (l_runV C hF (As := [.int v4, .int (f4 k4)]) (rest := []) (ci := 7) (q0 := i5) (conX7_many l D cA mu v0 v4 (f4 k4) _  H hR) ⟨k_cwB C tW_2_154 tW_6_103 tW_1_9 okX7_many rfl rfl ⟨Nat.le_of_ble_eq_true rfl, Nat.le_of_ble_eq_true rfl⟩, C.w tW_2_152, C.w tW_2_153⟩ hi5 rfl rfl rfl rfl (Nat.le_of_ble_eq_true rfl) dX7_place_25 ⟨Nat.le_of_ble_eq_true rfl, Nat.le_of_ble_eq_true rfl⟩) (fun r6 w1 hw_ => ?_)
        obtain ⟨rfl, H⟩ := hw_
        refine k_istore C (pc := 28) dX7_place_28 (Nat.lt_of_lt_of_le (Nat.lt_succ_self _) (Nat.le_of_ble_eq_true rfl)) (lv' := [(5, .int r6), (0, .ref v0), (1, .ref v1), (3, .int v3), (4, .int v4)]) rfl ?_
        refine k_iload_n C 3 (pc := 30) dX7_place_30 rfl rfl ?_
        refine k_iload C 0 (pc := 31) dX7_place_31 rfl ?_
        refine k_icmp_ge C (pc := 33) (tgt := 44) dX7_place_33 (by decide) (fun c_33 => ?_) (fun c_33 => ?_)
        · have H := H.1 c_33
          refine k_iload_n C 3 (pc := 44) dX7_place_44 rfl rfl ?_
          refine k_iload C 0 (pc := 45) dX7_place_45 rfl ?_
          refine k_isub C (pc := 47) dX7_place_47 ?_
          refine k_istore_n C (pc := 48) dX7_place_48 rfl (Nat.lt_of_lt_of_le (Nat.lt_succ_self _) (Nat.le_of_ble_eq_true rfl)) (lv' := [(3, .int (v3 - r6)), (5, .int r6), (0, .ref v0), (1, .ref v1), (4, .int v4)]) rfl ?_
          refine k_iinc C (pc := 49) (k := 4) (v := v4 + (1 : Int32)) dX7_place_49 rfl rfl (Nat.lt_of_lt_of_le (Nat.lt_succ_self _) (Nat.le_of_ble_eq_true rfl)) (lv' := [(4, .int (v4 + (1 : Int32))), (3, .int (v3 - r6)), (5, .int r6), (0, .ref v0), (1, .ref v1)]) rfl ?_
          refine k_goto C (pc := 52) (tgt := 5) dX7_place_52 (by decide) ?_
          refine k_lv (pc := 5) [3, 4, 1, 0] (lv' := [(0, .ref v0), (1, .ref v1), (3, .int (v3 - r6)), (4, .int (v4 + (1 : Int32)))]) rfl ?_
          exact ih5 v0 v1 (v3 - r6) (v4 + (1 : Int32)) H
        · have H := H.2 c_33
          refine k_bipush C (pc := 36) (v := (100 : Int32)) dX7_place_36 (by decide) ?_
          refine k_iload C 4 (pc := 38) dX7_place_38 rfl ?_
          refine k_imul C (pc := 40) dX7_place_40 ?_
          refine k_iload_n C 3 (pc := 41) dX7_place_41 rfl rfl ?_
          refine k_iadd C (pc := 42) dX7_place_42 ?_
          exact k_iret C (pc := 43) hr dX7_place_43 ⟨rfl, H⟩
  refine k_eq (ws' := ws0) (lv' := [(0, .ref v0), (1, .ref v1), (2, .int v2)]) (st' := []) rfl rfl rfl ?_
  have H : ∃ m_, wpX7_place_L5 mu Post  m_ v0 v1 v2 (0 : Int32) := H
  refine k_iload_n C 2 (pc := 0) dX7_place_0 rfl rfl ?_
  refine k_istore_n C (pc := 1) dX7_place_1 rfl (Nat.lt_of_lt_of_le (Nat.lt_succ_self _) (Nat.le_of_ble_eq_true rfl)) (lv' := [(3, .int v2), (0, .ref v0), (1, .ref v1), (2, .int v2)]) rfl ?_
  refine k_iconst C (pc := 2) (v := (0 : Int32)) dX7_place_2 rfl ?_
  refine k_istore C (pc := 3) dX7_place_3 (Nat.lt_of_lt_of_le (Nat.lt_succ_self _) (Nat.le_of_ble_eq_true rfl)) (lv' := [(4, .int (0 : Int32)), (3, .int v2), (0, .ref v0), (1, .ref v1), (2, .int v2)]) rfl ?_
  obtain ⟨n_, H⟩ := H
  refine k_lv (pc := 5) [2, 3, 1, 0] (lv' := [(0, .ref v0), (1, .ref v1), (3, .int v2), (4, .int (0 : Int32))]) rfl ?_
  exact B5  n_ v0 v1 v2 (0 : Int32) H
/-! WidowWatchLaw$Book.allLines(LWidowWatchLaw$Plan;)I -/
theorem dX7_allLines_0 : decode cX7_allLines 0 = .ok (.iconst 0, 1) := by decide +kernel
theorem dX7_allLines_1 : decode cX7_allLines 1 = .ok (.istore_n 2, 1) := by decide +kernel
theorem dX7_allLines_2 : decode cX7_allLines 2 = .ok (.iconst 0, 1) := by decide +kernel
theorem dX7_allLines_3 : decode cX7_allLines 3 = .ok (.istore_n 3, 1) := by decide +kernel
theorem dX7_allLines_4 : decode cX7_allLines 4 = .ok (.iload_n 3, 1) := by decide +kernel
theorem dX7_allLines_5 : decode cX7_allLines 5 = .ok (.aload_n 0, 1) := by decide +kernel
theorem dX7_allLines_6 : decode cX7_allLines 6 = .ok (.getfield 28, 3) := by decide +kernel
theorem dX7_allLines_9 : decode cX7_allLines 9 = .ok (.arraylength, 1) := by decide +kernel
theorem dX7_allLines_10 : decode cX7_allLines 10 = .ok (.if_icmp .ge 23, 3) := by decide +kernel
theorem dX7_allLines_13 : decode cX7_allLines 13 = .ok (.iload_n 2, 1) := by decide +kernel
theorem dX7_allLines_14 : decode cX7_allLines 14 = .ok (.aload_n 0, 1) := by decide +kernel
theorem dX7_allLines_15 : decode cX7_allLines 15 = .ok (.iload_n 3, 1) := by decide +kernel
theorem dX7_allLines_16 : decode cX7_allLines 16 = .ok (.aload_n 1, 1) := by decide +kernel
theorem dX7_allLines_17 : decode cX7_allLines 17 = .ok (.getfield 70, 3) := by decide +kernel
theorem dX7_allLines_20 : decode cX7_allLines 20 = .ok (.iload_n 3, 1) := by decide +kernel
theorem dX7_allLines_21 : decode cX7_allLines 21 = .ok (.iaload, 1) := by decide +kernel
theorem dX7_allLines_22 : decode cX7_allLines 22 = .ok (.invokevirtual 78, 3) := by decide +kernel
theorem dX7_allLines_25 : decode cX7_allLines 25 = .ok (.iadd, 1) := by decide +kernel
theorem dX7_allLines_26 : decode cX7_allLines 26 = .ok (.istore_n 2, 1) := by decide +kernel
theorem dX7_allLines_27 : decode cX7_allLines 27 = .ok (.iinc 3 1, 3) := by decide +kernel
theorem dX7_allLines_30 : decode cX7_allLines 30 = .ok (.goto (-26), 3) := by decide +kernel
theorem dX7_allLines_33 : decode cX7_allLines 33 = .ok (.iload_n 2, 1) := by decide +kernel
theorem dX7_allLines_34 : decode cX7_allLines 34 = .ok (.ireturn, 1) := by decide +kernel
theorem okX7_allLines : okY yX7_allLines 1 := ⟨by decide +kernel, by decide +kernel, by decide +kernel⟩
def wpX7_allLines_L4 (mu : Mu) (Post : Int32 → Prop)  : Nat → Nat → Nat → Int32 → Int32 → Prop
  | 0 => fun _ _ _ _ => False
  | nn4 + 1 => fun v0 v1 v2 v3 => ∃ x1, mB mu v0 = some x1 ∧ ∃ a1, x1.2.2.2.2.2.1 = some a1 ∧ ∃ n2 f2, mQ mu a1 = some (2, n2, f2) ∧ ((nI n2) ≤ v3 → Post v2) ∧ (¬ (nI n2) ≤ v3 → ∃ x3, mL mu v1 = some x3 ∧ ∃ a3, x3.2.1 = some a3 ∧ ∃ n4 f4 k4, mI mu a3 = some (n4, f4) ∧ v3 = nI k4 ∧ k4 < n4 ∧ n4 ≤ 1000 ∧ ∃ x5, mB mu v0 = some x5 ∧ wpX7_many mu v0 v3 (f4 k4) (fun r6 => (wpX7_allLines_L4 mu Post  nn4) v0 v1 (v2 + r6) (v3 + (1 : Int32))))
def wpX7_allLines (mu : Mu) (v0 : Nat) (v1 : Nat) (Post : Int32 → Prop) : Prop := ∃ m_, wpX7_allLines_L4 mu Post  m_ v0 v1 (0 : Int32) (0 : Int32)
set_option maxHeartbeats 4000000 in
set_option maxRecDepth 100000 in
theorem conX7_allLines (l : Launch) (D : va_G) (cA : Nat → ClassId) (mu : Mu) (v0 : Nat) (v1 : Nat) (Post : Int32 → Prop)  (H : wpX7_allLines mu v0 v1 Post) {w0 ws0 : va_W} (hR : LR cA w0 ws0 mu) : ConN l D cA yX7_allLines (wm yX7_allLines cX7_allLines 4 (some .int)) { frames := 1, cells := 0, slots := 0, locals := 30 } ws0 [.ref v0, .ref v1] 0 0 (PI (fun r w1 => w1 = ws0 ∧ Post r)) := by
  refine ConN.of (by decide) (Nat.le_of_ble_eq_true rfl) ?_
  intro p e s m args below meth c C hF hr hini
  have B4 : ∀  (n : Nat) (v0 : Nat) (v1 : Nat) (v2 : Int32) (v3 : Int32), wpX7_allLines_L4 mu Post  n v0 v1 v2 v3 → Kf p l e { frames := 1, cells := 0, slots := 0, locals := 30 } s m args below meth c D (va_A ws0 s.heap.size) 4 0 0 (MQ below (QC D ws0 s.heap.size (PI (fun r w1 => w1 = ws0 ∧ Post r))) args s 0 0 (va_A ws0 s.heap.size)) ws0 4 [(0, .ref v0), (1, .ref v1), (2, .int v2), (3, .int v3)] [] := by
    intro  n
    induction n with
    | zero =>
      intro v0 v1 v2 v3 H
      exact H.elim
    | succ nn4 ih4 =>
      intro v0 v1 v2 v3 H
      have H : ∃ x1, mB mu v0 = some x1 ∧ ∃ a1, x1.2.2.2.2.2.1 = some a1 ∧ ∃ n2 f2, mQ mu a1 = some (2, n2, f2) ∧ ((nI n2) ≤ v3 → Post v2) ∧ (¬ (nI n2) ≤ v3 → ∃ x3, mL mu v1 = some x3 ∧ ∃ a3, x3.2.1 = some a3 ∧ ∃ n4 f4 k4, mI mu a3 = some (n4, f4) ∧ v3 = nI k4 ∧ k4 < n4 ∧ n4 ≤ 1000 ∧ ∃ x5, mB mu v0 = some x5 ∧ wpX7_many mu v0 v3 (f4 k4) (fun r6 => (wpX7_allLines_L4 mu Post  nn4) v0 v1 (v2 + r6) (v3 + (1 : Int32)))) := H
      refine k_iload_n C 3 (pc := 4) dX7_allLines_4 rfl rfl ?_
      refine k_aload_n C 0 (pc := 5) dX7_allLines_5 rfl rfl ?_
      obtain ⟨x1, hx1, H⟩ := H
      obtain ⟨a1, ha1, H⟩ := H
      refine l_getB C hR (pc := 6) hx1 5 (Nat.lt_of_lt_of_le (Nat.lt_succ_self _) (Nat.le_of_ble_eq_true rfl)) (ref := "WidowWatchLaw$Book") tW_2_72 rfl (v := .ref a1) (by show some (va_rf x1.2.2.2.2.2.1) = _; rw [ha1]; rfl) dX7_allLines_6 ?_
      obtain ⟨n2, f2, hx_, H⟩ := H
      refine l_alenQ C hR (pc := 9) (Or.inl rfl) hx_ dX7_allLines_9 ?_
      refine k_icmp_ge C (pc := 10) (tgt := 33) dX7_allLines_10 (by decide) (fun c_10 => ?_) (fun c_10 => ?_)
      · have H := H.1 c_10
        refine k_iload_n C 2 (pc := 33) dX7_allLines_33 rfl rfl ?_
        exact k_iret C (pc := 34) hr dX7_allLines_34 ⟨rfl, H⟩
      · have H := H.2 c_10
        refine k_iload_n C 2 (pc := 13) dX7_allLines_13 rfl rfl ?_
        refine k_aload_n C 0 (pc := 14) dX7_allLines_14 rfl rfl ?_
        refine k_iload_n C 3 (pc := 15) dX7_allLines_15 rfl rfl ?_
        refine k_aload_n C 1 (pc := 16) dX7_allLines_16 rfl rfl ?_
        obtain ⟨x3, hx3, H⟩ := H
        obtain ⟨a3, ha3, H⟩ := H
        refine l_getL C hR (pc := 17) hx3 1 (Nat.lt_of_lt_of_le (Nat.lt_succ_self _) (Nat.le_of_ble_eq_true rfl)) (ref := "WidowWatchLaw$Plan") tW_6_93 rfl (v := .ref a3) (by show some (va_rf x3.2.1) = _; rw [ha3]; rfl) dX7_allLines_17 ?_
        refine k_iload_n C 3 (pc := 20) dX7_allLines_20 rfl rfl ?_
        obtain ⟨n4, f4, k4, hx_, hk_, hl_, hn_, H⟩ := H
        refine k_eq (pc := 21) (st' := [.int (nI k4), .ref a3, .int v3, .ref v0, .int v2]) rfl rfl (by rw [hk_]) ?_
        refine l_iald C hR (pc := 21) hx_ hl_ hn_ dX7_allLines_21 ?_
        obtain ⟨x5, hx5, H⟩ := H
        obtain ⟨i5, hi5⟩ := List.getElem?_of_mem (hR.B hx5)
        refine k_callAi C (pc := 22) (l_runV C hF (As := [.int v3, .int (f4 k4)]) (rest := [.int v2]) (ci := 7) (q0 := i5) (conX7_many l D cA mu v0 v3 (f4 k4) _  H hR) ⟨k_cwB C tW_2_154 tW_6_103 tW_1_9 okX7_many rfl rfl ⟨Nat.le_of_ble_eq_true rfl, Nat.le_of_ble_eq_true rfl⟩, C.w tW_2_152, C.w tW_2_153⟩ hi5 rfl rfl rfl rfl (Nat.le_of_ble_eq_true rfl) dX7_allLines_22 ⟨Nat.le_of_ble_eq_true rfl, Nat.le_of_ble_eq_true rfl⟩) (fun r6 w1 hw_ => ?_)
        obtain ⟨rfl, H⟩ := hw_
        refine k_iadd C (pc := 25) dX7_allLines_25 ?_
        refine k_istore_n C (pc := 26) dX7_allLines_26 rfl (Nat.lt_of_lt_of_le (Nat.lt_succ_self _) (Nat.le_of_ble_eq_true rfl)) (lv' := [(2, .int (v2 + r6)), (0, .ref v0), (1, .ref v1), (3, .int v3)]) rfl ?_
        refine k_iinc C (pc := 27) (k := 3) (v := v3 + (1 : Int32)) dX7_allLines_27 rfl rfl (Nat.lt_of_lt_of_le (Nat.lt_succ_self _) (Nat.le_of_ble_eq_true rfl)) (lv' := [(3, .int (v3 + (1 : Int32))), (2, .int (v2 + r6)), (0, .ref v0), (1, .ref v1)]) rfl ?_
        refine k_goto C (pc := 30) (tgt := 4) dX7_allLines_30 (by decide) ?_
        refine k_lv (pc := 4) [2, 3, 1, 0] (lv' := [(0, .ref v0), (1, .ref v1), (2, .int (v2 + r6)), (3, .int (v3 + (1 : Int32)))]) rfl ?_
        exact ih4 v0 v1 (v2 + r6) (v3 + (1 : Int32)) H
  refine k_eq (ws' := ws0) (lv' := [(0, .ref v0), (1, .ref v1)]) (st' := []) rfl rfl rfl ?_
  have H : ∃ m_, wpX7_allLines_L4 mu Post  m_ v0 v1 (0 : Int32) (0 : Int32) := H
  refine k_iconst C (pc := 0) (v := (0 : Int32)) dX7_allLines_0 rfl ?_
  refine k_istore_n C (pc := 1) dX7_allLines_1 rfl (Nat.lt_of_lt_of_le (Nat.lt_succ_self _) (Nat.le_of_ble_eq_true rfl)) (lv' := [(2, .int (0 : Int32)), (0, .ref v0), (1, .ref v1)]) rfl ?_
  refine k_iconst C (pc := 2) (v := (0 : Int32)) dX7_allLines_2 rfl ?_
  refine k_istore_n C (pc := 3) dX7_allLines_3 rfl (Nat.lt_of_lt_of_le (Nat.lt_succ_self _) (Nat.le_of_ble_eq_true rfl)) (lv' := [(3, .int (0 : Int32)), (2, .int (0 : Int32)), (0, .ref v0), (1, .ref v1)]) rfl ?_
  obtain ⟨n_, H⟩ := H
  refine k_lv (pc := 4) [2, 3, 1, 0] (lv' := [(0, .ref v0), (1, .ref v1), (2, .int (0 : Int32)), (3, .int (0 : Int32))]) rfl ?_
  exact B4  n_ v0 v1 (0 : Int32) (0 : Int32) H
/-! WidowWatchLaw$Book.isWidow(LWidowWatchLaw$Plan;I)Z -/
theorem dX7_isWidow_0 : decode cX7_isWidow 0 = .ok (.iload_n 2, 1) := by decide +kernel
theorem dX7_isWidow_1 : decode cX7_isWidow 1 = .ok (.ifCond .ne 5, 3) := by decide +kernel
theorem dX7_isWidow_4 : decode cX7_isWidow 4 = .ok (.iconst 0, 1) := by decide +kernel
theorem dX7_isWidow_5 : decode cX7_isWidow 5 = .ok (.ireturn, 1) := by decide +kernel
theorem dX7_isWidow_6 : decode cX7_isWidow 6 = .ok (.aload_n 0, 1) := by decide +kernel
theorem dX7_isWidow_7 : decode cX7_isWidow 7 = .ok (.aload_n 1, 1) := by decide +kernel
theorem dX7_isWidow_8 : decode cX7_isWidow 8 = .ok (.aload_n 1, 1) := by decide +kernel
theorem dX7_isWidow_9 : decode cX7_isWidow 9 = .ok (.getfield 74, 3) := by decide +kernel
theorem dX7_isWidow_12 : decode cX7_isWidow 12 = .ok (.iload_n 2, 1) := by decide +kernel
theorem dX7_isWidow_13 : decode cX7_isWidow 13 = .ok (.iaload, 1) := by decide +kernel
theorem dX7_isWidow_14 : decode cX7_isWidow 14 = .ok (.invokevirtual 104, 3) := by decide +kernel
theorem dX7_isWidow_17 : decode cX7_isWidow 17 = .ok (.istore_n 3, 1) := by decide +kernel
theorem dX7_isWidow_18 : decode cX7_isWidow 18 = .ok (.aload_n 0, 1) := by decide +kernel
theorem dX7_isWidow_19 : decode cX7_isWidow 19 = .ok (.iload_n 3, 1) := by decide +kernel
theorem dX7_isWidow_20 : decode cX7_isWidow 20 = .ok (.bipush 100, 2) := by decide +kernel
theorem dX7_isWidow_22 : decode cX7_isWidow 22 = .ok (.idiv, 1) := by decide +kernel
theorem dX7_isWidow_23 : decode cX7_isWidow 23 = .ok (.aload_n 1, 1) := by decide +kernel
theorem dX7_isWidow_24 : decode cX7_isWidow 24 = .ok (.getfield 70, 3) := by decide +kernel
theorem dX7_isWidow_27 : decode cX7_isWidow 27 = .ok (.iload_n 3, 1) := by decide +kernel
theorem dX7_isWidow_28 : decode cX7_isWidow 28 = .ok (.bipush 100, 2) := by decide +kernel
theorem dX7_isWidow_30 : decode cX7_isWidow 30 = .ok (.idiv, 1) := by decide +kernel
theorem dX7_isWidow_31 : decode cX7_isWidow 31 = .ok (.iaload, 1) := by decide +kernel
theorem dX7_isWidow_32 : decode cX7_isWidow 32 = .ok (.invokevirtual 78, 3) := by decide +kernel
theorem dX7_isWidow_35 : decode cX7_isWidow 35 = .ok (.istore 4, 2) := by decide +kernel
theorem dX7_isWidow_37 : decode cX7_isWidow 37 = .ok (.iload 4, 2) := by decide +kernel
theorem dX7_isWidow_39 : decode cX7_isWidow 39 = .ok (.iconst 1, 1) := by decide +kernel
theorem dX7_isWidow_40 : decode cX7_isWidow 40 = .ok (.if_icmp .le 18, 3) := by decide +kernel
theorem dX7_isWidow_43 : decode cX7_isWidow 43 = .ok (.iload_n 3, 1) := by decide +kernel
theorem dX7_isWidow_44 : decode cX7_isWidow 44 = .ok (.bipush 100, 2) := by decide +kernel
theorem dX7_isWidow_46 : decode cX7_isWidow 46 = .ok (.irem, 1) := by decide +kernel
theorem dX7_isWidow_47 : decode cX7_isWidow 47 = .ok (.iload 4, 2) := by decide +kernel
theorem dX7_isWidow_49 : decode cX7_isWidow 49 = .ok (.iconst 1, 1) := by decide +kernel
theorem dX7_isWidow_50 : decode cX7_isWidow 50 = .ok (.isub, 1) := by decide +kernel
theorem dX7_isWidow_51 : decode cX7_isWidow 51 = .ok (.if_icmp .ne 7, 3) := by decide +kernel
theorem dX7_isWidow_54 : decode cX7_isWidow 54 = .ok (.iconst 1, 1) := by decide +kernel
theorem dX7_isWidow_55 : decode cX7_isWidow 55 = .ok (.goto 4, 3) := by decide +kernel
theorem dX7_isWidow_58 : decode cX7_isWidow 58 = .ok (.iconst 0, 1) := by decide +kernel
theorem dX7_isWidow_59 : decode cX7_isWidow 59 = .ok (.ireturn, 1) := by decide +kernel
theorem okX7_isWidow : okY yX7_isWidow 2 := ⟨by decide +kernel, by decide +kernel, by decide +kernel⟩
def wpX7_isWidow (mu : Mu) (v0 : Nat) (v1 : Nat) (v2 : Int32) (Post : Int32 → Prop) : Prop := (¬ v2 = 0 → ∃ x1, mL mu v1 = some x1 ∧ ∃ a1, x1.2.2 = some a1 ∧ ∃ n2 f2 k2, mI mu a1 = some (n2, f2) ∧ v2 = nI k2 ∧ k2 < n2 ∧ n2 ≤ 1000 ∧ ∃ x3, mB mu v0 = some x3 ∧ wpX7_place mu v0 v1 (f2 k2) (fun r4 => ∃ x5, mL mu v1 = some x5 ∧ ∃ a5, x5.2.1 = some a5 ∧ ∃ n6 f6 k6, mI mu a5 = some (n6, f6) ∧ r4 / (100 : Int32) = nI k6 ∧ k6 < n6 ∧ n6 ≤ 1000 ∧ ∃ x7, mB mu v0 = some x7 ∧ wpX7_many mu v0 (r4 / (100 : Int32)) (f6 k6) (fun r8 => (r8 ≤ (1 : Int32) → Post (0 : Int32)) ∧ (¬ r8 ≤ (1 : Int32) → (¬ (r4 - r4 / (100 : Int32) * (100 : Int32)) = (r8 - (1 : Int32)) → Post (0 : Int32)) ∧ ((r4 - r4 / (100 : Int32) * (100 : Int32)) = (r8 - (1 : Int32)) → Post (1 : Int32)))))) ∧ (v2 = 0 → Post (0 : Int32))
set_option maxHeartbeats 4000000 in
set_option maxRecDepth 100000 in
theorem conX7_isWidow (l : Launch) (D : va_G) (cA : Nat → ClassId) (mu : Mu) (v0 : Nat) (v1 : Nat) (v2 : Int32) (Post : Int32 → Prop)  (H : wpX7_isWidow mu v0 v1 v2 Post) {w0 ws0 : va_W} (hR : LR cA w0 ws0 mu) : ConN l D cA yX7_isWidow (wm yX7_isWidow cX7_isWidow 5 (some .boolean)) { frames := 2, cells := 0, slots := 0, locals := 55 } ws0 [.ref v0, .ref v1, .int v2] 0 0 (PI (fun r w1 => w1 = ws0 ∧ Post r)) := by
  refine ConN.of (by decide) (Nat.le_of_ble_eq_true rfl) ?_
  intro p e s m args below meth c C hF hr hini
  refine k_eq (ws' := ws0) (lv' := [(0, .ref v0), (1, .ref v1), (2, .int v2)]) (st' := []) rfl rfl rfl ?_
  have H : (¬ v2 = 0 → ∃ x1, mL mu v1 = some x1 ∧ ∃ a1, x1.2.2 = some a1 ∧ ∃ n2 f2 k2, mI mu a1 = some (n2, f2) ∧ v2 = nI k2 ∧ k2 < n2 ∧ n2 ≤ 1000 ∧ ∃ x3, mB mu v0 = some x3 ∧ wpX7_place mu v0 v1 (f2 k2) (fun r4 => ∃ x5, mL mu v1 = some x5 ∧ ∃ a5, x5.2.1 = some a5 ∧ ∃ n6 f6 k6, mI mu a5 = some (n6, f6) ∧ r4 / (100 : Int32) = nI k6 ∧ k6 < n6 ∧ n6 ≤ 1000 ∧ ∃ x7, mB mu v0 = some x7 ∧ wpX7_many mu v0 (r4 / (100 : Int32)) (f6 k6) (fun r8 => (r8 ≤ (1 : Int32) → Post (0 : Int32)) ∧ (¬ r8 ≤ (1 : Int32) → (¬ (r4 - r4 / (100 : Int32) * (100 : Int32)) = (r8 - (1 : Int32)) → Post (0 : Int32)) ∧ ((r4 - r4 / (100 : Int32) * (100 : Int32)) = (r8 - (1 : Int32)) → Post (1 : Int32)))))) ∧ (v2 = 0 → Post (0 : Int32)) := H
  refine k_iload_n C 2 (pc := 0) dX7_isWidow_0 rfl rfl ?_
  refine k_if_ne C (pc := 1) (tgt := 6) dX7_isWidow_1 (by decide) (fun c_1 => ?_) (fun c_1 => ?_)
  · have H := H.1 c_1
    refine k_aload_n C 0 (pc := 6) dX7_isWidow_6 rfl rfl ?_
    refine k_aload_n C 1 (pc := 7) dX7_isWidow_7 rfl rfl ?_
    refine k_aload_n C 1 (pc := 8) dX7_isWidow_8 rfl rfl ?_
    obtain ⟨x1, hx1, H⟩ := H
    obtain ⟨a1, ha1, H⟩ := H
    refine l_getL C hR (pc := 9) hx1 2 (Nat.lt_of_lt_of_le (Nat.lt_succ_self _) (Nat.le_of_ble_eq_true rfl)) (ref := "WidowWatchLaw$Plan") tW_6_95 rfl (v := .ref a1) (by show some (va_rf x1.2.2) = _; rw [ha1]; rfl) dX7_isWidow_9 ?_
    refine k_iload_n C 2 (pc := 12) dX7_isWidow_12 rfl rfl ?_
    obtain ⟨n2, f2, k2, hx_, hk_, hl_, hn_, H⟩ := H
    refine k_eq (pc := 13) (st' := [.int (nI k2), .ref a1, .ref v1, .ref v0]) rfl rfl (by rw [hk_]) ?_
    refine l_iald C hR (pc := 13) hx_ hl_ hn_ dX7_isWidow_13 ?_
    obtain ⟨x3, hx3, H⟩ := H
    obtain ⟨i3, hi3⟩ := List.getElem?_of_mem (hR.B hx3)
    refine k_callAi C (pc := 14) (l_runV C hF (As := [.ref v1, .int (f2 k2)]) (rest := []) (ci := 7) (q0 := i3) (conX7_place l D cA mu v0 v1 (f2 k2) _  H hR) ⟨k_cwB C tW_6_137 tW_6_134 tW_1_9 okX7_place rfl rfl ⟨Nat.le_of_ble_eq_true rfl, Nat.le_of_ble_eq_true rfl⟩, C.w tW_6_135, C.w tW_6_136⟩ hi3 rfl rfl rfl rfl (Nat.le_of_ble_eq_true rfl) dX7_isWidow_14 ⟨Nat.le_of_ble_eq_true rfl, Nat.le_of_ble_eq_true rfl⟩) (fun r4 w1 hw_ => ?_)
    obtain ⟨rfl, H⟩ := hw_
    refine k_istore_n C (pc := 17) dX7_isWidow_17 rfl (Nat.lt_of_lt_of_le (Nat.lt_succ_self _) (Nat.le_of_ble_eq_true rfl)) (lv' := [(3, .int r4), (0, .ref v0), (1, .ref v1), (2, .int v2)]) rfl ?_
    refine k_aload_n C 1 (pc := 18) dX7_isWidow_18 rfl rfl ?_
    refine k_iload_n C 0 (pc := 19) dX7_isWidow_19 rfl rfl ?_
    refine k_bipush C (pc := 20) (v := (100 : Int32)) dX7_isWidow_20 (by decide) ?_
    refine l_idiv C (pc := 22) dX7_isWidow_22 (by decide) ?_
    refine k_aload_n C 2 (pc := 23) dX7_isWidow_23 rfl rfl ?_
    obtain ⟨x5, hx5, H⟩ := H
    obtain ⟨a5, ha5, H⟩ := H
    refine l_getL C hR (pc := 24) hx5 1 (Nat.lt_of_lt_of_le (Nat.lt_succ_self _) (Nat.le_of_ble_eq_true rfl)) (ref := "WidowWatchLaw$Plan") tW_6_93 rfl (v := .ref a5) (by show some (va_rf x5.2.1) = _; rw [ha5]; rfl) dX7_isWidow_24 ?_
    refine k_iload_n C 0 (pc := 27) dX7_isWidow_27 rfl rfl ?_
    refine k_bipush C (pc := 28) (v := (100 : Int32)) dX7_isWidow_28 (by decide) ?_
    refine l_idiv C (pc := 30) dX7_isWidow_30 (by decide) ?_
    obtain ⟨n6, f6, k6, hx_, hk_, hl_, hn_, H⟩ := H
    refine k_eq (pc := 31) (st' := [.int (nI k6), .ref a5, .int (r4 / (100 : Int32)), .ref v0]) rfl rfl (by rw [hk_]) ?_
    refine l_iald C hR (pc := 31) hx_ hl_ hn_ dX7_isWidow_31 ?_
    obtain ⟨x7, hx7, H⟩ := H
    obtain ⟨i7, hi7⟩ := List.getElem?_of_mem (hR.B hx7)
    refine k_callAi C (pc := 32) (l_runV C hF (As := [.int (r4 / (100 : Int32)), .int (f6 k6)]) (rest := []) (ci := 7) (q0 := i7) (conX7_many l D cA mu v0 (r4 / (100 : Int32)) (f6 k6) _  H hR) ⟨k_cwB C tW_2_154 tW_6_103 tW_1_9 okX7_many rfl rfl ⟨Nat.le_of_ble_eq_true rfl, Nat.le_of_ble_eq_true rfl⟩, C.w tW_2_152, C.w tW_2_153⟩ hi7 rfl rfl rfl rfl (Nat.le_of_ble_eq_true rfl) dX7_isWidow_32 ⟨Nat.le_of_ble_eq_true rfl, Nat.le_of_ble_eq_true rfl⟩) (fun r8 w1 hw_ => ?_)
    obtain ⟨rfl, H⟩ := hw_
    refine k_istore C (pc := 35) dX7_isWidow_35 (Nat.lt_of_lt_of_le (Nat.lt_succ_self _) (Nat.le_of_ble_eq_true rfl)) (lv' := [(4, .int r8), (3, .int r4), (0, .ref v0), (1, .ref v1), (2, .int v2)]) rfl ?_
    refine k_iload C 0 (pc := 37) dX7_isWidow_37 rfl ?_
    refine k_iconst C (pc := 39) (v := (1 : Int32)) dX7_isWidow_39 rfl ?_
    refine k_icmp_le C (pc := 40) (tgt := 58) dX7_isWidow_40 (by decide) (fun c_40 => ?_) (fun c_40 => ?_)
    · have H := H.1 c_40
      refine k_iconst C (pc := 58) (v := (0 : Int32)) dX7_isWidow_58 rfl ?_
      exact k_zret C (pc := 59) hr rfl dX7_isWidow_59 ⟨rfl, H⟩
    · have H := H.2 c_40
      refine k_iload_n C 1 (pc := 43) dX7_isWidow_43 rfl rfl ?_
      refine k_bipush C (pc := 44) (v := (100 : Int32)) dX7_isWidow_44 (by decide) ?_
      refine k_irem C (pc := 46) dX7_isWidow_46 (by decide) ?_
      refine k_iload C 0 (pc := 47) dX7_isWidow_47 rfl ?_
      refine k_iconst C (pc := 49) (v := (1 : Int32)) dX7_isWidow_49 rfl ?_
      refine k_isub C (pc := 50) dX7_isWidow_50 ?_
      refine k_icmp_ne C (pc := 51) (tgt := 58) dX7_isWidow_51 (by decide) (fun c_51 => ?_) (fun c_51 => ?_)
      · have H := H.1 c_51
        refine k_iconst C (pc := 58) (v := (0 : Int32)) dX7_isWidow_58 rfl ?_
        exact k_zret C (pc := 59) hr rfl dX7_isWidow_59 ⟨rfl, H⟩
      · have H := H.2 c_51
        refine k_iconst C (pc := 54) (v := (1 : Int32)) dX7_isWidow_54 rfl ?_
        refine k_goto C (pc := 55) (tgt := 59) dX7_isWidow_55 (by decide) ?_
        exact k_zret C (pc := 59) hr rfl dX7_isWidow_59 ⟨rfl, H⟩
  · have H := H.2 c_1
    refine k_iconst C (pc := 4) (v := (0 : Int32)) dX7_isWidow_4 rfl ?_
    exact k_zret C (pc := 5) hr rfl dX7_isWidow_5 ⟨rfl, H⟩
/-! WidowWatchLaw$Book.ofPage(LWidowWatchLaw$Plan;II)I -/
theorem dX7_ofPage_0 : decode cX7_ofPage 0 = .ok (.iload_n 2, 1) := by decide +kernel
theorem dX7_ofPage_1 : decode cX7_ofPage 1 = .ok (.iconst 1, 1) := by decide +kernel
theorem dX7_ofPage_2 : decode cX7_ofPage 2 = .ok (.iadd, 1) := by decide +kernel
theorem dX7_ofPage_3 : decode cX7_ofPage 3 = .ok (.aload_n 1, 1) := by decide +kernel
theorem dX7_ofPage_4 : decode cX7_ofPage 4 = .ok (.getfield 74, 3) := by decide +kernel
theorem dX7_ofPage_7 : decode cX7_ofPage 7 = .ok (.arraylength, 1) := by decide +kernel
theorem dX7_ofPage_8 : decode cX7_ofPage 8 = .ok (.if_icmp .ge 14, 3) := by decide +kernel
theorem dX7_ofPage_11 : decode cX7_ofPage 11 = .ok (.aload_n 1, 1) := by decide +kernel
theorem dX7_ofPage_12 : decode cX7_ofPage 12 = .ok (.getfield 74, 3) := by decide +kernel
theorem dX7_ofPage_15 : decode cX7_ofPage 15 = .ok (.iload_n 2, 1) := by decide +kernel
theorem dX7_ofPage_16 : decode cX7_ofPage 16 = .ok (.iconst 1, 1) := by decide +kernel
theorem dX7_ofPage_17 : decode cX7_ofPage 17 = .ok (.iadd, 1) := by decide +kernel
theorem dX7_ofPage_18 : decode cX7_ofPage 18 = .ok (.iaload, 1) := by decide +kernel
theorem dX7_ofPage_19 : decode cX7_ofPage 19 = .ok (.goto 8, 3) := by decide +kernel
theorem dX7_ofPage_22 : decode cX7_ofPage 22 = .ok (.aload_n 0, 1) := by decide +kernel
theorem dX7_ofPage_23 : decode cX7_ofPage 23 = .ok (.aload_n 1, 1) := by decide +kernel
theorem dX7_ofPage_24 : decode cX7_ofPage 24 = .ok (.invokevirtual 108, 3) := by decide +kernel
theorem dX7_ofPage_27 : decode cX7_ofPage 27 = .ok (.istore 4, 2) := by decide +kernel
theorem dX7_ofPage_29 : decode cX7_ofPage 29 = .ok (.aload_n 0, 1) := by decide +kernel
theorem dX7_ofPage_30 : decode cX7_ofPage 30 = .ok (.aload_n 1, 1) := by decide +kernel
theorem dX7_ofPage_31 : decode cX7_ofPage 31 = .ok (.aload_n 1, 1) := by decide +kernel
theorem dX7_ofPage_32 : decode cX7_ofPage 32 = .ok (.getfield 74, 3) := by decide +kernel
theorem dX7_ofPage_35 : decode cX7_ofPage 35 = .ok (.iload_n 2, 1) := by decide +kernel
theorem dX7_ofPage_36 : decode cX7_ofPage 36 = .ok (.iaload, 1) := by decide +kernel
theorem dX7_ofPage_37 : decode cX7_ofPage 37 = .ok (.invokevirtual 104, 3) := by decide +kernel
theorem dX7_ofPage_40 : decode cX7_ofPage 40 = .ok (.istore 5, 2) := by decide +kernel
theorem dX7_ofPage_42 : decode cX7_ofPage 42 = .ok (.iload_n 3, 1) := by decide +kernel
theorem dX7_ofPage_43 : decode cX7_ofPage 43 = .ok (.ifCond .ne 13, 3) := by decide +kernel
theorem dX7_ofPage_46 : decode cX7_ofPage 46 = .ok (.iload 4, 2) := by decide +kernel
theorem dX7_ofPage_48 : decode cX7_ofPage 48 = .ok (.aload_n 1, 1) := by decide +kernel
theorem dX7_ofPage_49 : decode cX7_ofPage 49 = .ok (.getfield 74, 3) := by decide +kernel
theorem dX7_ofPage_52 : decode cX7_ofPage 52 = .ok (.iload_n 2, 1) := by decide +kernel
theorem dX7_ofPage_53 : decode cX7_ofPage 53 = .ok (.iaload, 1) := by decide +kernel
theorem dX7_ofPage_54 : decode cX7_ofPage 54 = .ok (.isub, 1) := by decide +kernel
theorem dX7_ofPage_55 : decode cX7_ofPage 55 = .ok (.ireturn, 1) := by decide +kernel
theorem dX7_ofPage_56 : decode cX7_ofPage 56 = .ok (.iload_n 3, 1) := by decide +kernel
theorem dX7_ofPage_57 : decode cX7_ofPage 57 = .ok (.iconst 3, 1) := by decide +kernel
theorem dX7_ofPage_58 : decode cX7_ofPage 58 = .ok (.if_icmp .ge 22, 3) := by decide +kernel
theorem dX7_ofPage_61 : decode cX7_ofPage 61 = .ok (.iload_n 3, 1) := by decide +kernel
theorem dX7_ofPage_62 : decode cX7_ofPage 62 = .ok (.iconst 1, 1) := by decide +kernel
theorem dX7_ofPage_63 : decode cX7_ofPage 63 = .ok (.if_icmp .ne 11, 3) := by decide +kernel
theorem dX7_ofPage_66 : decode cX7_ofPage 66 = .ok (.iload 5, 2) := by decide +kernel
theorem dX7_ofPage_68 : decode cX7_ofPage 68 = .ok (.bipush 100, 2) := by decide +kernel
theorem dX7_ofPage_70 : decode cX7_ofPage 70 = .ok (.idiv, 1) := by decide +kernel
theorem dX7_ofPage_71 : decode cX7_ofPage 71 = .ok (.goto 8, 3) := by decide +kernel
theorem dX7_ofPage_74 : decode cX7_ofPage 74 = .ok (.iload 5, 2) := by decide +kernel
theorem dX7_ofPage_76 : decode cX7_ofPage 76 = .ok (.bipush 100, 2) := by decide +kernel
theorem dX7_ofPage_78 : decode cX7_ofPage 78 = .ok (.irem, 1) := by decide +kernel
theorem dX7_ofPage_79 : decode cX7_ofPage 79 = .ok (.ireturn, 1) := by decide +kernel
theorem dX7_ofPage_80 : decode cX7_ofPage 80 = .ok (.iload_n 3, 1) := by decide +kernel
theorem dX7_ofPage_81 : decode cX7_ofPage 81 = .ok (.iconst 3, 1) := by decide +kernel
theorem dX7_ofPage_82 : decode cX7_ofPage 82 = .ok (.if_icmp .ne 45, 3) := by decide +kernel
theorem dX7_ofPage_85 : decode cX7_ofPage 85 = .ok (.iload_n 2, 1) := by decide +kernel
theorem dX7_ofPage_86 : decode cX7_ofPage 86 = .ok (.ifCond .ne 7, 3) := by decide +kernel
theorem dX7_ofPage_89 : decode cX7_ofPage 89 = .ok (.iconst 0, 1) := by decide +kernel
theorem dX7_ofPage_90 : decode cX7_ofPage 90 = .ok (.goto 36, 3) := by decide +kernel
theorem dX7_ofPage_93 : decode cX7_ofPage 93 = .ok (.aload_n 0, 1) := by decide +kernel
theorem dX7_ofPage_94 : decode cX7_ofPage 94 = .ok (.iload 5, 2) := by decide +kernel
theorem dX7_ofPage_96 : decode cX7_ofPage 96 = .ok (.bipush 100, 2) := by decide +kernel
theorem dX7_ofPage_98 : decode cX7_ofPage 98 = .ok (.idiv, 1) := by decide +kernel
theorem dX7_ofPage_99 : decode cX7_ofPage 99 = .ok (.iload 5, 2) := by decide +kernel
theorem dX7_ofPage_101 : decode cX7_ofPage 101 = .ok (.bipush 100, 2) := by decide +kernel
theorem dX7_ofPage_103 : decode cX7_ofPage 103 = .ok (.irem, 1) := by decide +kernel
theorem dX7_ofPage_104 : decode cX7_ofPage 104 = .ok (.aload_n 0, 1) := by decide +kernel
theorem dX7_ofPage_105 : decode cX7_ofPage 105 = .ok (.iload 5, 2) := by decide +kernel
theorem dX7_ofPage_107 : decode cX7_ofPage 107 = .ok (.bipush 100, 2) := by decide +kernel
theorem dX7_ofPage_109 : decode cX7_ofPage 109 = .ok (.idiv, 1) := by decide +kernel
theorem dX7_ofPage_110 : decode cX7_ofPage 110 = .ok (.aload_n 1, 1) := by decide +kernel
theorem dX7_ofPage_111 : decode cX7_ofPage 111 = .ok (.getfield 70, 3) := by decide +kernel
theorem dX7_ofPage_114 : decode cX7_ofPage 114 = .ok (.iload 5, 2) := by decide +kernel
theorem dX7_ofPage_116 : decode cX7_ofPage 116 = .ok (.bipush 100, 2) := by decide +kernel
theorem dX7_ofPage_118 : decode cX7_ofPage 118 = .ok (.idiv, 1) := by decide +kernel
theorem dX7_ofPage_119 : decode cX7_ofPage 119 = .ok (.iaload, 1) := by decide +kernel
theorem dX7_ofPage_120 : decode cX7_ofPage 120 = .ok (.invokevirtual 78, 3) := by decide +kernel
theorem dX7_ofPage_123 : decode cX7_ofPage 123 = .ok (.invokevirtual 93, 3) := by decide +kernel
theorem dX7_ofPage_126 : decode cX7_ofPage 126 = .ok (.ireturn, 1) := by decide +kernel
theorem dX7_ofPage_127 : decode cX7_ofPage 127 = .ok (.aload_n 0, 1) := by decide +kernel
theorem dX7_ofPage_128 : decode cX7_ofPage 128 = .ok (.aload_n 1, 1) := by decide +kernel
theorem dX7_ofPage_129 : decode cX7_ofPage 129 = .ok (.iload 4, 2) := by decide +kernel
theorem dX7_ofPage_131 : decode cX7_ofPage 131 = .ok (.invokevirtual 104, 3) := by decide +kernel
theorem dX7_ofPage_134 : decode cX7_ofPage 134 = .ok (.istore 6, 2) := by decide +kernel
theorem dX7_ofPage_136 : decode cX7_ofPage 136 = .ok (.iload_n 2, 1) := by decide +kernel
theorem dX7_ofPage_137 : decode cX7_ofPage 137 = .ok (.iconst 1, 1) := by decide +kernel
theorem dX7_ofPage_138 : decode cX7_ofPage 138 = .ok (.iadd, 1) := by decide +kernel
theorem dX7_ofPage_139 : decode cX7_ofPage 139 = .ok (.aload_n 1, 1) := by decide +kernel
theorem dX7_ofPage_140 : decode cX7_ofPage 140 = .ok (.getfield 74, 3) := by decide +kernel
theorem dX7_ofPage_143 : decode cX7_ofPage 143 = .ok (.arraylength, 1) := by decide +kernel
theorem dX7_ofPage_144 : decode cX7_ofPage 144 = .ok (.if_icmp .eq 27, 3) := by decide +kernel
theorem dX7_ofPage_147 : decode cX7_ofPage 147 = .ok (.iload 6, 2) := by decide +kernel
theorem dX7_ofPage_149 : decode cX7_ofPage 149 = .ok (.bipush 100, 2) := by decide +kernel
theorem dX7_ofPage_151 : decode cX7_ofPage 151 = .ok (.irem, 1) := by decide +kernel
theorem dX7_ofPage_152 : decode cX7_ofPage 152 = .ok (.ifCond .ne 23, 3) := by decide +kernel
theorem dX7_ofPage_155 : decode cX7_ofPage 155 = .ok (.aload_n 0, 1) := by decide +kernel
theorem dX7_ofPage_156 : decode cX7_ofPage 156 = .ok (.getfield 28, 3) := by decide +kernel
theorem dX7_ofPage_159 : decode cX7_ofPage 159 = .ok (.iload 6, 2) := by decide +kernel
theorem dX7_ofPage_161 : decode cX7_ofPage 161 = .ok (.bipush 100, 2) := by decide +kernel
theorem dX7_ofPage_163 : decode cX7_ofPage 163 = .ok (.idiv, 1) := by decide +kernel
theorem dX7_ofPage_164 : decode cX7_ofPage 164 = .ok (.aaload, 1) := by decide +kernel
theorem dX7_ofPage_165 : decode cX7_ofPage 165 = .ok (.getfield 90, 3) := by decide +kernel
theorem dX7_ofPage_168 : decode cX7_ofPage 168 = .ok (.ifCond .eq 7, 3) := by decide +kernel
theorem dX7_ofPage_171 : decode cX7_ofPage 171 = .ok (.iconst 0, 1) := by decide +kernel
theorem dX7_ofPage_172 : decode cX7_ofPage 172 = .ok (.goto 24, 3) := by decide +kernel
theorem dX7_ofPage_175 : decode cX7_ofPage 175 = .ok (.aload_n 0, 1) := by decide +kernel
theorem dX7_ofPage_176 : decode cX7_ofPage 176 = .ok (.getfield 13, 3) := by decide +kernel
theorem dX7_ofPage_179 : decode cX7_ofPage 179 = .ok (.iload 4, 2) := by decide +kernel
theorem dX7_ofPage_181 : decode cX7_ofPage 181 = .ok (.isub, 1) := by decide +kernel
theorem dX7_ofPage_182 : decode cX7_ofPage 182 = .ok (.aload_n 1, 1) := by decide +kernel
theorem dX7_ofPage_183 : decode cX7_ofPage 183 = .ok (.getfield 74, 3) := by decide +kernel
theorem dX7_ofPage_186 : decode cX7_ofPage 186 = .ok (.iload_n 2, 1) := by decide +kernel
theorem dX7_ofPage_187 : decode cX7_ofPage 187 = .ok (.iaload, 1) := by decide +kernel
theorem dX7_ofPage_188 : decode cX7_ofPage 188 = .ok (.iadd, 1) := by decide +kernel
theorem dX7_ofPage_189 : decode cX7_ofPage 189 = .ok (.aload_n 0, 1) := by decide +kernel
theorem dX7_ofPage_190 : decode cX7_ofPage 190 = .ok (.getfield 22, 3) := by decide +kernel
theorem dX7_ofPage_193 : decode cX7_ofPage 193 = .ok (.iconst 2, 1) := by decide +kernel
theorem dX7_ofPage_194 : decode cX7_ofPage 194 = .ok (.iaload, 1) := by decide +kernel
theorem dX7_ofPage_195 : decode cX7_ofPage 195 = .ok (.imul, 1) := by decide +kernel
theorem dX7_ofPage_196 : decode cX7_ofPage 196 = .ok (.ireturn, 1) := by decide +kernel
theorem okX7_ofPage : okY yX7_ofPage 3 := ⟨by decide +kernel, by decide +kernel, by decide +kernel⟩
def wpX7_ofPage_b171 (mu : Mu) (Post : Int32 → Prop)   : Prop := Post (0 : Int32)
def wpX7_ofPage_b175 (mu : Mu) (Post : Int32 → Prop)  (v0 : Nat) (v1 : Nat) (v2 : Int32) (v4 : Int32) : Prop := ∃ x13, mB mu v0 = some x13 ∧ ∃ x14, mL mu v1 = some x14 ∧ ∃ a14, x14.2.2 = some a14 ∧ ∃ n15 f15 k15, mI mu a14 = some (n15, f15) ∧ v2 = nI k15 ∧ k15 < n15 ∧ n15 ≤ 1000 ∧ ∃ x16, mB mu v0 = some x16 ∧ ∃ a16, x16.2.2.2.2.1 = some a16 ∧ ∃ n17 f17 k17, mI mu a16 = some (n17, f17) ∧ (2 : Int32) = nI k17 ∧ k17 < n17 ∧ n17 ≤ 1000 ∧ Post (((x13.2.1 - v4) + (f15 k15)) * (f17 k17))
def wpX7_ofPage_b27 (mu : Mu) (Post : Int32 → Prop)  (v0 : Nat) (v1 : Nat) (v2 : Int32) (v3 : Int32) (s0 : Int32) : Prop := ∃ x5, mL mu v1 = some x5 ∧ ∃ a5, x5.2.2 = some a5 ∧ ∃ n6 f6 k6, mI mu a5 = some (n6, f6) ∧ v2 = nI k6 ∧ k6 < n6 ∧ n6 ≤ 1000 ∧ ∃ x7, mB mu v0 = some x7 ∧ wpX7_place mu v0 v1 (f6 k6) (fun r8 => (¬ v3 = 0 → ((3 : Int32) ≤ v3 → (¬ v3 = (3 : Int32) → ∃ x9, mB mu v0 = some x9 ∧ wpX7_place mu v0 v1 s0 (fun r10 => ∃ x11, mL mu v1 = some x11 ∧ ∃ a11, x11.2.2 = some a11 ∧ ∃ n12 f12, mI mu a11 = some (n12, f12) ∧ ((v2 + (1 : Int32)) = (nI n12) → wpX7_ofPage_b171 mu Post  ) ∧ (¬ (v2 + (1 : Int32)) = (nI n12) → (¬ (r10 - r10 / (100 : Int32) * (100 : Int32)) = 0 → wpX7_ofPage_b175 mu Post  v0 v1 v2 s0) ∧ ((r10 - r10 / (100 : Int32) * (100 : Int32)) = 0 → ∃ x18, mB mu v0 = some x18 ∧ ∃ a18, x18.2.2.2.2.2.1 = some a18 ∧ ∃ n19 f19 k19, mQ mu a18 = some (2, n19, f19) ∧ r10 / (100 : Int32) = nI k19 ∧ k19 < n19 ∧ n19 ≤ 1000 ∧ ∃ a19, f19 k19 = some a19 ∧ ∃ x20, mP mu a19 = some x20 ∧ (x20.2.1 = 0 → wpX7_ofPage_b175 mu Post  v0 v1 v2 s0) ∧ (¬ x20.2.1 = 0 → wpX7_ofPage_b171 mu Post  ))))) ∧ (v3 = (3 : Int32) → (¬ v2 = 0 → ∃ x21, mL mu v1 = some x21 ∧ ∃ a21, x21.2.1 = some a21 ∧ ∃ n22 f22 k22, mI mu a21 = some (n22, f22) ∧ r8 / (100 : Int32) = nI k22 ∧ k22 < n22 ∧ n22 ≤ 1000 ∧ ∃ x23, mB mu v0 = some x23 ∧ wpX7_many mu v0 (r8 / (100 : Int32)) (f22 k22) (fun r24 => ∃ x25, mB mu v0 = some x25 ∧ wpX7_beginning mu v0 (r8 / (100 : Int32)) (r8 - r8 / (100 : Int32) * (100 : Int32)) r24 (fun r26 => Post r26))) ∧ (v2 = 0 → Post (0 : Int32)))) ∧ (¬ (3 : Int32) ≤ v3 → (¬ v3 = (1 : Int32) → Post (r8 - r8 / (100 : Int32) * (100 : Int32))) ∧ (v3 = (1 : Int32) → Post (r8 / (100 : Int32))))) ∧ (v3 = 0 → ∃ x27, mL mu v1 = some x27 ∧ ∃ a27, x27.2.2 = some a27 ∧ ∃ n28 f28 k28, mI mu a27 = some (n28, f28) ∧ v2 = nI k28 ∧ k28 < n28 ∧ n28 ≤ 1000 ∧ Post (s0 - (f28 k28))))
def wpX7_ofPage (mu : Mu) (v0 : Nat) (v1 : Nat) (v2 : Int32) (v3 : Int32) (Post : Int32 → Prop) : Prop := ∃ x1, mL mu v1 = some x1 ∧ ∃ a1, x1.2.2 = some a1 ∧ ∃ n2 f2, mI mu a1 = some (n2, f2) ∧ ((nI n2) ≤ (v2 + (1 : Int32)) → ∃ x3, mB mu v0 = some x3 ∧ wpX7_allLines mu v0 v1 (fun r4 => wpX7_ofPage_b27 mu Post  v0 v1 v2 v3 r4)) ∧ (¬ (nI n2) ≤ (v2 + (1 : Int32)) → ∃ x29, mL mu v1 = some x29 ∧ ∃ a29, x29.2.2 = some a29 ∧ ∃ n30 f30 k30, mI mu a29 = some (n30, f30) ∧ v2 + (1 : Int32) = nI k30 ∧ k30 < n30 ∧ n30 ≤ 1000 ∧ wpX7_ofPage_b27 mu Post  v0 v1 v2 v3 (f30 k30))
set_option maxHeartbeats 4000000 in
set_option maxRecDepth 100000 in
theorem conX7_ofPage (l : Launch) (D : va_G) (cA : Nat → ClassId) (mu : Mu) (v0 : Nat) (v1 : Nat) (v2 : Int32) (v3 : Int32) (Post : Int32 → Prop)  (H : wpX7_ofPage mu v0 v1 v2 v3 Post) {w0 ws0 : va_W} (hR : LR cA w0 ws0 mu) : ConN l D cA yX7_ofPage (wm yX7_ofPage cX7_ofPage 7 (some .int)) { frames := 2, cells := 0, slots := 0, locals := 55 } ws0 [.ref v0, .ref v1, .int v2, .int v3] 0 0 (PI (fun r w1 => w1 = ws0 ∧ Post r)) := by
  refine ConN.of (by decide) (Nat.le_of_ble_eq_true rfl) ?_
  intro p e s m args below meth c C hF hr hini
  have B171 : wpX7_ofPage_b171 mu Post  → Kf p l e { frames := 2, cells := 0, slots := 0, locals := 55 } s m args below meth c D (va_A ws0 s.heap.size) 7 0 0 (MQ below (QC D ws0 s.heap.size (PI (fun r w1 => w1 = ws0 ∧ Post r))) args s 0 0 (va_A ws0 s.heap.size)) ws0 171 [] [] := by
    intro   H
    have H : Post (0 : Int32) := H
    refine k_iconst C (pc := 171) (v := (0 : Int32)) dX7_ofPage_171 rfl ?_
    refine k_goto C (pc := 172) (tgt := 196) dX7_ofPage_172 (by decide) ?_
    exact k_iret C (pc := 196) hr dX7_ofPage_196 ⟨rfl, H⟩
  have B175 : ∀  (v0 : Nat) (v1 : Nat) (v2 : Int32) (v4 : Int32), wpX7_ofPage_b175 mu Post  v0 v1 v2 v4 → Kf p l e { frames := 2, cells := 0, slots := 0, locals := 55 } s m args below meth c D (va_A ws0 s.heap.size) 7 0 0 (MQ below (QC D ws0 s.heap.size (PI (fun r w1 => w1 = ws0 ∧ Post r))) args s 0 0 (va_A ws0 s.heap.size)) ws0 175 [(0, .ref v0), (1, .ref v1), (2, .int v2), (4, .int v4)] [] := by
    intro  v0 v1 v2 v4 H
    have H : ∃ x13, mB mu v0 = some x13 ∧ ∃ x14, mL mu v1 = some x14 ∧ ∃ a14, x14.2.2 = some a14 ∧ ∃ n15 f15 k15, mI mu a14 = some (n15, f15) ∧ v2 = nI k15 ∧ k15 < n15 ∧ n15 ≤ 1000 ∧ ∃ x16, mB mu v0 = some x16 ∧ ∃ a16, x16.2.2.2.2.1 = some a16 ∧ ∃ n17 f17 k17, mI mu a16 = some (n17, f17) ∧ (2 : Int32) = nI k17 ∧ k17 < n17 ∧ n17 ≤ 1000 ∧ Post (((x13.2.1 - v4) + (f15 k15)) * (f17 k17)) := H
    refine k_aload_n C 0 (pc := 175) dX7_ofPage_175 rfl rfl ?_
    obtain ⟨x13, hx13, H⟩ := H
    refine l_getB C hR (pc := 176) hx13 1 (Nat.lt_of_lt_of_le (Nat.lt_succ_self _) (Nat.le_of_ble_eq_true rfl)) (ref := "WidowWatchLaw$Book") tW_2_64 rfl (v := .int x13.2.1) rfl dX7_ofPage_176 ?_
    refine k_iload C 3 (pc := 179) dX7_ofPage_179 rfl ?_
    refine k_isub C (pc := 181) dX7_ofPage_181 ?_
    refine k_aload_n C 1 (pc := 182) dX7_ofPage_182 rfl rfl ?_
    obtain ⟨x14, hx14, H⟩ := H
    obtain ⟨a14, ha14, H⟩ := H
    refine l_getL C hR (pc := 183) hx14 2 (Nat.lt_of_lt_of_le (Nat.lt_succ_self _) (Nat.le_of_ble_eq_true rfl)) (ref := "WidowWatchLaw$Plan") tW_6_95 rfl (v := .ref a14) (by show some (va_rf x14.2.2) = _; rw [ha14]; rfl) dX7_ofPage_183 ?_
    refine k_iload_n C 2 (pc := 186) dX7_ofPage_186 rfl rfl ?_
    obtain ⟨n15, f15, k15, hx_, hk_, hl_, hn_, H⟩ := H
    refine k_eq (pc := 187) (st' := [.int (nI k15), .ref a14, .int (x13.2.1 - v4)]) rfl rfl (by rw [hk_]) ?_
    refine l_iald C hR (pc := 187) hx_ hl_ hn_ dX7_ofPage_187 ?_
    refine k_iadd C (pc := 188) dX7_ofPage_188 ?_
    refine k_aload_n C 0 (pc := 189) dX7_ofPage_189 rfl rfl ?_
    obtain ⟨x16, hx16, H⟩ := H
    obtain ⟨a16, ha16, H⟩ := H
    refine l_getB C hR (pc := 190) hx16 4 (Nat.lt_of_lt_of_le (Nat.lt_succ_self _) (Nat.le_of_ble_eq_true rfl)) (ref := "WidowWatchLaw$Book") tW_2_70 rfl (v := .ref a16) (by show some (va_rf x16.2.2.2.2.1) = _; rw [ha16]; rfl) dX7_ofPage_190 ?_
    refine k_iconst C (pc := 193) (v := (2 : Int32)) dX7_ofPage_193 rfl ?_
    obtain ⟨n17, f17, k17, hx_, hk_, hl_, hn_, H⟩ := H
    refine k_eq (pc := 194) (st' := [.int (nI k17), .ref a16, .int ((x13.2.1 - v4) + (f15 k15))]) rfl rfl (by rw [hk_]) ?_
    refine l_iald C hR (pc := 194) hx_ hl_ hn_ dX7_ofPage_194 ?_
    refine k_imul C (pc := 195) dX7_ofPage_195 ?_
    exact k_iret C (pc := 196) hr dX7_ofPage_196 ⟨rfl, H⟩
  have B27 : ∀  (v0 : Nat) (v1 : Nat) (v2 : Int32) (v3 : Int32) (s0 : Int32), wpX7_ofPage_b27 mu Post  v0 v1 v2 v3 s0 → Kf p l e { frames := 2, cells := 0, slots := 0, locals := 55 } s m args below meth c D (va_A ws0 s.heap.size) 7 0 0 (MQ below (QC D ws0 s.heap.size (PI (fun r w1 => w1 = ws0 ∧ Post r))) args s 0 0 (va_A ws0 s.heap.size)) ws0 27 [(0, .ref v0), (1, .ref v1), (2, .int v2), (3, .int v3)] [.int s0] := by
    intro  v0 v1 v2 v3 s0 H
    have H : ∃ x5, mL mu v1 = some x5 ∧ ∃ a5, x5.2.2 = some a5 ∧ ∃ n6 f6 k6, mI mu a5 = some (n6, f6) ∧ v2 = nI k6 ∧ k6 < n6 ∧ n6 ≤ 1000 ∧ ∃ x7, mB mu v0 = some x7 ∧ wpX7_place mu v0 v1 (f6 k6) (fun r8 => (¬ v3 = 0 → ((3 : Int32) ≤ v3 → (¬ v3 = (3 : Int32) → ∃ x9, mB mu v0 = some x9 ∧ wpX7_place mu v0 v1 s0 (fun r10 => ∃ x11, mL mu v1 = some x11 ∧ ∃ a11, x11.2.2 = some a11 ∧ ∃ n12 f12, mI mu a11 = some (n12, f12) ∧ ((v2 + (1 : Int32)) = (nI n12) → wpX7_ofPage_b171 mu Post  ) ∧ (¬ (v2 + (1 : Int32)) = (nI n12) → (¬ (r10 - r10 / (100 : Int32) * (100 : Int32)) = 0 → wpX7_ofPage_b175 mu Post  v0 v1 v2 s0) ∧ ((r10 - r10 / (100 : Int32) * (100 : Int32)) = 0 → ∃ x18, mB mu v0 = some x18 ∧ ∃ a18, x18.2.2.2.2.2.1 = some a18 ∧ ∃ n19 f19 k19, mQ mu a18 = some (2, n19, f19) ∧ r10 / (100 : Int32) = nI k19 ∧ k19 < n19 ∧ n19 ≤ 1000 ∧ ∃ a19, f19 k19 = some a19 ∧ ∃ x20, mP mu a19 = some x20 ∧ (x20.2.1 = 0 → wpX7_ofPage_b175 mu Post  v0 v1 v2 s0) ∧ (¬ x20.2.1 = 0 → wpX7_ofPage_b171 mu Post  ))))) ∧ (v3 = (3 : Int32) → (¬ v2 = 0 → ∃ x21, mL mu v1 = some x21 ∧ ∃ a21, x21.2.1 = some a21 ∧ ∃ n22 f22 k22, mI mu a21 = some (n22, f22) ∧ r8 / (100 : Int32) = nI k22 ∧ k22 < n22 ∧ n22 ≤ 1000 ∧ ∃ x23, mB mu v0 = some x23 ∧ wpX7_many mu v0 (r8 / (100 : Int32)) (f22 k22) (fun r24 => ∃ x25, mB mu v0 = some x25 ∧ wpX7_beginning mu v0 (r8 / (100 : Int32)) (r8 - r8 / (100 : Int32) * (100 : Int32)) r24 (fun r26 => Post r26))) ∧ (v2 = 0 → Post (0 : Int32)))) ∧ (¬ (3 : Int32) ≤ v3 → (¬ v3 = (1 : Int32) → Post (r8 - r8 / (100 : Int32) * (100 : Int32))) ∧ (v3 = (1 : Int32) → Post (r8 / (100 : Int32))))) ∧ (v3 = 0 → ∃ x27, mL mu v1 = some x27 ∧ ∃ a27, x27.2.2 = some a27 ∧ ∃ n28 f28 k28, mI mu a27 = some (n28, f28) ∧ v2 = nI k28 ∧ k28 < n28 ∧ n28 ≤ 1000 ∧ Post (s0 - (f28 k28)))) := H
    refine k_istore C (pc := 27) dX7_ofPage_27 (Nat.lt_of_lt_of_le (Nat.lt_succ_self _) (Nat.le_of_ble_eq_true rfl)) (lv' := [(4, .int s0), (0, .ref v0), (1, .ref v1), (2, .int v2), (3, .int v3)]) rfl ?_
    refine k_aload_n C 1 (pc := 29) dX7_ofPage_29 rfl rfl ?_
    refine k_aload_n C 2 (pc := 30) dX7_ofPage_30 rfl rfl ?_
    refine k_aload_n C 2 (pc := 31) dX7_ofPage_31 rfl rfl ?_
    obtain ⟨x5, hx5, H⟩ := H
    obtain ⟨a5, ha5, H⟩ := H
    refine l_getL C hR (pc := 32) hx5 2 (Nat.lt_of_lt_of_le (Nat.lt_succ_self _) (Nat.le_of_ble_eq_true rfl)) (ref := "WidowWatchLaw$Plan") tW_6_95 rfl (v := .ref a5) (by show some (va_rf x5.2.2) = _; rw [ha5]; rfl) dX7_ofPage_32 ?_
    refine k_iload_n C 3 (pc := 35) dX7_ofPage_35 rfl rfl ?_
    obtain ⟨n6, f6, k6, hx_, hk_, hl_, hn_, H⟩ := H
    refine k_eq (pc := 36) (st' := [.int (nI k6), .ref a5, .ref v1, .ref v0]) rfl rfl (by rw [hk_]) ?_
    refine l_iald C hR (pc := 36) hx_ hl_ hn_ dX7_ofPage_36 ?_
    obtain ⟨x7, hx7, H⟩ := H
    obtain ⟨i7, hi7⟩ := List.getElem?_of_mem (hR.B hx7)
    refine k_callAi C (pc := 37) (l_runV C hF (As := [.ref v1, .int (f6 k6)]) (rest := []) (ci := 7) (q0 := i7) (conX7_place l D cA mu v0 v1 (f6 k6) _  H hR) ⟨k_cwB C tW_6_137 tW_6_134 tW_1_9 okX7_place rfl rfl ⟨Nat.le_of_ble_eq_true rfl, Nat.le_of_ble_eq_true rfl⟩, C.w tW_6_135, C.w tW_6_136⟩ hi7 rfl rfl rfl rfl (Nat.le_of_ble_eq_true rfl) dX7_ofPage_37 ⟨Nat.le_of_ble_eq_true rfl, Nat.le_of_ble_eq_true rfl⟩) (fun r8 w1 hw_ => ?_)
    obtain ⟨rfl, H⟩ := hw_
    refine k_istore C (pc := 40) dX7_ofPage_40 (Nat.lt_of_lt_of_le (Nat.lt_succ_self _) (Nat.le_of_ble_eq_true rfl)) (lv' := [(5, .int r8), (4, .int s0), (0, .ref v0), (1, .ref v1), (2, .int v2), (3, .int v3)]) rfl ?_
    refine k_iload_n C 5 (pc := 42) dX7_ofPage_42 rfl rfl ?_
    refine k_if_ne C (pc := 43) (tgt := 56) dX7_ofPage_43 (by decide) (fun c_43 => ?_) (fun c_43 => ?_)
    · have H := H.1 c_43
      refine k_iload_n C 5 (pc := 56) dX7_ofPage_56 rfl rfl ?_
      refine k_iconst C (pc := 57) (v := (3 : Int32)) dX7_ofPage_57 rfl ?_
      refine k_icmp_ge C (pc := 58) (tgt := 80) dX7_ofPage_58 (by decide) (fun c_58 => ?_) (fun c_58 => ?_)
      · have H := H.1 c_58
        refine k_iload_n C 5 (pc := 80) dX7_ofPage_80 rfl rfl ?_
        refine k_iconst C (pc := 81) (v := (3 : Int32)) dX7_ofPage_81 rfl ?_
        refine k_icmp_ne C (pc := 82) (tgt := 127) dX7_ofPage_82 (by decide) (fun c_82 => ?_) (fun c_82 => ?_)
        · have H := H.1 c_82
          refine k_aload_n C 2 (pc := 127) dX7_ofPage_127 rfl rfl ?_
          refine k_aload_n C 3 (pc := 128) dX7_ofPage_128 rfl rfl ?_
          refine k_iload C 1 (pc := 129) dX7_ofPage_129 rfl ?_
          obtain ⟨x9, hx9, H⟩ := H
          obtain ⟨i9, hi9⟩ := List.getElem?_of_mem (hR.B hx9)
          refine k_callAi C (pc := 131) (l_runV C hF (As := [.ref v1, .int s0]) (rest := []) (ci := 7) (q0 := i9) (conX7_place l D cA mu v0 v1 s0 _  H hR) ⟨k_cwB C tW_6_137 tW_6_134 tW_1_9 okX7_place rfl rfl ⟨Nat.le_of_ble_eq_true rfl, Nat.le_of_ble_eq_true rfl⟩, C.w tW_6_135, C.w tW_6_136⟩ hi9 rfl rfl rfl rfl (Nat.le_of_ble_eq_true rfl) dX7_ofPage_131 ⟨Nat.le_of_ble_eq_true rfl, Nat.le_of_ble_eq_true rfl⟩) (fun r10 w1 hw_ => ?_)
          obtain ⟨rfl, H⟩ := hw_
          refine k_istore C (pc := 134) dX7_ofPage_134 (Nat.lt_of_lt_of_le (Nat.lt_succ_self _) (Nat.le_of_ble_eq_true rfl)) (lv' := [(6, .int r10), (5, .int r8), (4, .int s0), (0, .ref v0), (1, .ref v1), (2, .int v2), (3, .int v3)]) rfl ?_
          refine k_iload_n C 5 (pc := 136) dX7_ofPage_136 rfl rfl ?_
          refine k_iconst C (pc := 137) (v := (1 : Int32)) dX7_ofPage_137 rfl ?_
          refine k_iadd C (pc := 138) dX7_ofPage_138 ?_
          refine k_aload_n C 4 (pc := 139) dX7_ofPage_139 rfl rfl ?_
          obtain ⟨x11, hx11, H⟩ := H
          obtain ⟨a11, ha11, H⟩ := H
          refine l_getL C hR (pc := 140) hx11 2 (Nat.lt_of_lt_of_le (Nat.lt_succ_self _) (Nat.le_of_ble_eq_true rfl)) (ref := "WidowWatchLaw$Plan") tW_6_95 rfl (v := .ref a11) (by show some (va_rf x11.2.2) = _; rw [ha11]; rfl) dX7_ofPage_140 ?_
          obtain ⟨n12, f12, hx_, H⟩ := H
          refine l_alen C hR (pc := 143) hx_ dX7_ofPage_143 ?_
          refine k_icmp_eq C (pc := 144) (tgt := 171) dX7_ofPage_144 (by decide) (fun c_144 => ?_) (fun c_144 => ?_)
          · have H := H.1 c_144
            refine k_lv (pc := 171) [] (lv' := []) rfl ?_
            exact B171   H
          · have H := H.2 c_144
            refine k_iload C 0 (pc := 147) dX7_ofPage_147 rfl ?_
            refine k_bipush C (pc := 149) (v := (100 : Int32)) dX7_ofPage_149 (by decide) ?_
            refine k_irem C (pc := 151) dX7_ofPage_151 (by decide) ?_
            refine k_if_ne C (pc := 152) (tgt := 175) dX7_ofPage_152 (by decide) (fun c_152 => ?_) (fun c_152 => ?_)
            · have H := H.1 c_152
              refine k_lv (pc := 175) [3, 4, 5, 2] (lv' := [(0, .ref v0), (1, .ref v1), (2, .int v2), (4, .int s0)]) rfl ?_
              exact B175  v0 v1 v2 s0 H
            · have H := H.2 c_152
              refine k_aload_n C 3 (pc := 155) dX7_ofPage_155 rfl rfl ?_
              obtain ⟨x18, hx18, H⟩ := H
              obtain ⟨a18, ha18, H⟩ := H
              refine l_getB C hR (pc := 156) hx18 5 (Nat.lt_of_lt_of_le (Nat.lt_succ_self _) (Nat.le_of_ble_eq_true rfl)) (ref := "WidowWatchLaw$Book") tW_2_72 rfl (v := .ref a18) (by show some (va_rf x18.2.2.2.2.2.1) = _; rw [ha18]; rfl) dX7_ofPage_156 ?_
              refine k_iload C 0 (pc := 159) dX7_ofPage_159 rfl ?_
              refine k_bipush C (pc := 161) (v := (100 : Int32)) dX7_ofPage_161 (by decide) ?_
              refine l_idiv C (pc := 163) dX7_ofPage_163 (by decide) ?_
              obtain ⟨n19, f19, k19, hx_, hk_, hl_, hn_, H⟩ := H
              refine k_eq (pc := 164) (st' := [.int (nI k19), .ref a18]) rfl rfl (by rw [hk_]) ?_
              obtain ⟨a19, ha19, H⟩ := H
              refine l_aald C hR (pc := 164) (Or.inl rfl) hx_ hl_ hn_ dX7_ofPage_164 ?_
              refine k_eq (pc := 165) (st' := [.ref a19]) rfl rfl (by rw [ha19]; rfl) ?_
              obtain ⟨x20, hx20, H⟩ := H
              refine l_getP C hR (pc := 165) hx20 1 (Nat.lt_of_lt_of_le (Nat.lt_succ_self _) (Nat.le_of_ble_eq_true rfl)) (ref := "WidowWatchLaw$Para") tW_2_126 rfl (v := .int x20.2.1) rfl dX7_ofPage_165 ?_
              refine k_if_eq C (pc := 168) (tgt := 175) dX7_ofPage_168 (by decide) (fun c_168 => ?_) (fun c_168 => ?_)
              · have H := H.1 c_168
                refine k_lv (pc := 175) [3, 4, 5, 2] (lv' := [(0, .ref v0), (1, .ref v1), (2, .int v2), (4, .int s0)]) rfl ?_
                exact B175  v0 v1 v2 s0 H
              · have H := H.2 c_168
                refine k_lv (pc := 171) [] (lv' := []) rfl ?_
                exact B171   H
        · have H := H.2 c_82
          refine k_iload_n C 4 (pc := 85) dX7_ofPage_85 rfl rfl ?_
          refine k_if_ne C (pc := 86) (tgt := 93) dX7_ofPage_86 (by decide) (fun c_86 => ?_) (fun c_86 => ?_)
          · have H := H.1 c_86
            refine k_aload_n C 2 (pc := 93) dX7_ofPage_93 rfl rfl ?_
            refine k_iload C 0 (pc := 94) dX7_ofPage_94 rfl ?_
            refine k_bipush C (pc := 96) (v := (100 : Int32)) dX7_ofPage_96 (by decide) ?_
            refine l_idiv C (pc := 98) dX7_ofPage_98 (by decide) ?_
            refine k_iload C 0 (pc := 99) dX7_ofPage_99 rfl ?_
            refine k_bipush C (pc := 101) (v := (100 : Int32)) dX7_ofPage_101 (by decide) ?_
            refine k_irem C (pc := 103) dX7_ofPage_103 (by decide) ?_
            refine k_aload_n C 2 (pc := 104) dX7_ofPage_104 rfl rfl ?_
            refine k_iload C 0 (pc := 105) dX7_ofPage_105 rfl ?_
            refine k_bipush C (pc := 107) (v := (100 : Int32)) dX7_ofPage_107 (by decide) ?_
            refine l_idiv C (pc := 109) dX7_ofPage_109 (by decide) ?_
            refine k_aload_n C 3 (pc := 110) dX7_ofPage_110 rfl rfl ?_
            obtain ⟨x21, hx21, H⟩ := H
            obtain ⟨a21, ha21, H⟩ := H
            refine l_getL C hR (pc := 111) hx21 1 (Nat.lt_of_lt_of_le (Nat.lt_succ_self _) (Nat.le_of_ble_eq_true rfl)) (ref := "WidowWatchLaw$Plan") tW_6_93 rfl (v := .ref a21) (by show some (va_rf x21.2.1) = _; rw [ha21]; rfl) dX7_ofPage_111 ?_
            refine k_iload C 0 (pc := 114) dX7_ofPage_114 rfl ?_
            refine k_bipush C (pc := 116) (v := (100 : Int32)) dX7_ofPage_116 (by decide) ?_
            refine l_idiv C (pc := 118) dX7_ofPage_118 (by decide) ?_
            obtain ⟨n22, f22, k22, hx_, hk_, hl_, hn_, H⟩ := H
            refine k_eq (pc := 119) (st' := [.int (nI k22), .ref a21, .int (r8 / (100 : Int32)), .ref v0, .int (r8 - r8 / (100 : Int32) * (100 : Int32)), .int (r8 / (100 : Int32)), .ref v0]) rfl rfl (by rw [hk_]) ?_
            refine l_iald C hR (pc := 119) hx_ hl_ hn_ dX7_ofPage_119 ?_
            obtain ⟨x23, hx23, H⟩ := H
            obtain ⟨i23, hi23⟩ := List.getElem?_of_mem (hR.B hx23)
            refine k_callAi C (pc := 120) (l_runV C hF (As := [.int (r8 / (100 : Int32)), .int (f22 k22)]) (rest := [.int (r8 - r8 / (100 : Int32) * (100 : Int32)), .int (r8 / (100 : Int32)), .ref v0]) (ci := 7) (q0 := i23) (conX7_many l D cA mu v0 (r8 / (100 : Int32)) (f22 k22) _  H hR) ⟨k_cwB C tW_2_154 tW_6_103 tW_1_9 okX7_many rfl rfl ⟨Nat.le_of_ble_eq_true rfl, Nat.le_of_ble_eq_true rfl⟩, C.w tW_2_152, C.w tW_2_153⟩ hi23 rfl rfl rfl rfl (Nat.le_of_ble_eq_true rfl) dX7_ofPage_120 ⟨Nat.le_of_ble_eq_true rfl, Nat.le_of_ble_eq_true rfl⟩) (fun r24 w1 hw_ => ?_)
            obtain ⟨rfl, H⟩ := hw_
            obtain ⟨x25, hx25, H⟩ := H
            obtain ⟨i25, hi25⟩ := List.getElem?_of_mem (hR.B hx25)
            refine k_callAi C (pc := 123) (l_runV C hF (As := [.int (r8 / (100 : Int32)), .int (r8 - r8 / (100 : Int32) * (100 : Int32)), .int r24]) (rest := []) (ci := 7) (q0 := i25) (conX7_beginning l D cA mu v0 (r8 / (100 : Int32)) (r8 - r8 / (100 : Int32) * (100 : Int32)) r24 _  H hR) ⟨k_cwB C tW_6_111 tW_6_108 tW_1_9 okX7_beginning rfl rfl ⟨Nat.le_of_ble_eq_true rfl, Nat.le_of_ble_eq_true rfl⟩, C.w tW_6_109, C.w tW_6_110⟩ hi25 rfl rfl rfl rfl (Nat.le_of_ble_eq_true rfl) dX7_ofPage_123 ⟨Nat.le_of_ble_eq_true rfl, Nat.le_of_ble_eq_true rfl⟩) (fun r26 w1 hw_ => ?_)
            obtain ⟨rfl, H⟩ := hw_
            exact k_iret C (pc := 126) hr dX7_ofPage_126 ⟨rfl, H⟩
          · have H := H.2 c_86
            refine k_iconst C (pc := 89) (v := (0 : Int32)) dX7_ofPage_89 rfl ?_
            refine k_goto C (pc := 90) (tgt := 126) dX7_ofPage_90 (by decide) ?_
            exact k_iret C (pc := 126) hr dX7_ofPage_126 ⟨rfl, H⟩
      · have H := H.2 c_58
        refine k_iload_n C 5 (pc := 61) dX7_ofPage_61 rfl rfl ?_
        refine k_iconst C (pc := 62) (v := (1 : Int32)) dX7_ofPage_62 rfl ?_
        refine k_icmp_ne C (pc := 63) (tgt := 74) dX7_ofPage_63 (by decide) (fun c_63 => ?_) (fun c_63 => ?_)
        · have H := H.1 c_63
          refine k_iload C 0 (pc := 74) dX7_ofPage_74 rfl ?_
          refine k_bipush C (pc := 76) (v := (100 : Int32)) dX7_ofPage_76 (by decide) ?_
          refine k_irem C (pc := 78) dX7_ofPage_78 (by decide) ?_
          exact k_iret C (pc := 79) hr dX7_ofPage_79 ⟨rfl, H⟩
        · have H := H.2 c_63
          refine k_iload C 0 (pc := 66) dX7_ofPage_66 rfl ?_
          refine k_bipush C (pc := 68) (v := (100 : Int32)) dX7_ofPage_68 (by decide) ?_
          refine l_idiv C (pc := 70) dX7_ofPage_70 (by decide) ?_
          refine k_goto C (pc := 71) (tgt := 79) dX7_ofPage_71 (by decide) ?_
          exact k_iret C (pc := 79) hr dX7_ofPage_79 ⟨rfl, H⟩
    · have H := H.2 c_43
      refine k_iload C 1 (pc := 46) dX7_ofPage_46 rfl ?_
      refine k_aload_n C 3 (pc := 48) dX7_ofPage_48 rfl rfl ?_
      obtain ⟨x27, hx27, H⟩ := H
      obtain ⟨a27, ha27, H⟩ := H
      refine l_getL C hR (pc := 49) hx27 2 (Nat.lt_of_lt_of_le (Nat.lt_succ_self _) (Nat.le_of_ble_eq_true rfl)) (ref := "WidowWatchLaw$Plan") tW_6_95 rfl (v := .ref a27) (by show some (va_rf x27.2.2) = _; rw [ha27]; rfl) dX7_ofPage_49 ?_
      refine k_iload_n C 4 (pc := 52) dX7_ofPage_52 rfl rfl ?_
      obtain ⟨n28, f28, k28, hx_, hk_, hl_, hn_, H⟩ := H
      refine k_eq (pc := 53) (st' := [.int (nI k28), .ref a27, .int s0]) rfl rfl (by rw [hk_]) ?_
      refine l_iald C hR (pc := 53) hx_ hl_ hn_ dX7_ofPage_53 ?_
      refine k_isub C (pc := 54) dX7_ofPage_54 ?_
      exact k_iret C (pc := 55) hr dX7_ofPage_55 ⟨rfl, H⟩
  refine k_eq (ws' := ws0) (lv' := [(0, .ref v0), (1, .ref v1), (2, .int v2), (3, .int v3)]) (st' := []) rfl rfl rfl ?_
  have H : ∃ x1, mL mu v1 = some x1 ∧ ∃ a1, x1.2.2 = some a1 ∧ ∃ n2 f2, mI mu a1 = some (n2, f2) ∧ ((nI n2) ≤ (v2 + (1 : Int32)) → ∃ x3, mB mu v0 = some x3 ∧ wpX7_allLines mu v0 v1 (fun r4 => wpX7_ofPage_b27 mu Post  v0 v1 v2 v3 r4)) ∧ (¬ (nI n2) ≤ (v2 + (1 : Int32)) → ∃ x29, mL mu v1 = some x29 ∧ ∃ a29, x29.2.2 = some a29 ∧ ∃ n30 f30 k30, mI mu a29 = some (n30, f30) ∧ v2 + (1 : Int32) = nI k30 ∧ k30 < n30 ∧ n30 ≤ 1000 ∧ wpX7_ofPage_b27 mu Post  v0 v1 v2 v3 (f30 k30)) := H
  refine k_iload_n C 2 (pc := 0) dX7_ofPage_0 rfl rfl ?_
  refine k_iconst C (pc := 1) (v := (1 : Int32)) dX7_ofPage_1 rfl ?_
  refine k_iadd C (pc := 2) dX7_ofPage_2 ?_
  refine k_aload_n C 1 (pc := 3) dX7_ofPage_3 rfl rfl ?_
  obtain ⟨x1, hx1, H⟩ := H
  obtain ⟨a1, ha1, H⟩ := H
  refine l_getL C hR (pc := 4) hx1 2 (Nat.lt_of_lt_of_le (Nat.lt_succ_self _) (Nat.le_of_ble_eq_true rfl)) (ref := "WidowWatchLaw$Plan") tW_6_95 rfl (v := .ref a1) (by show some (va_rf x1.2.2) = _; rw [ha1]; rfl) dX7_ofPage_4 ?_
  obtain ⟨n2, f2, hx_, H⟩ := H
  refine l_alen C hR (pc := 7) hx_ dX7_ofPage_7 ?_
  refine k_icmp_ge C (pc := 8) (tgt := 22) dX7_ofPage_8 (by decide) (fun c_8 => ?_) (fun c_8 => ?_)
  · have H := H.1 c_8
    refine k_aload_n C 0 (pc := 22) dX7_ofPage_22 rfl rfl ?_
    refine k_aload_n C 1 (pc := 23) dX7_ofPage_23 rfl rfl ?_
    obtain ⟨x3, hx3, H⟩ := H
    obtain ⟨i3, hi3⟩ := List.getElem?_of_mem (hR.B hx3)
    refine k_callAi C (pc := 24) (l_runV C hF (As := [.ref v1]) (rest := []) (ci := 7) (q0 := i3) (conX7_allLines l D cA mu v0 v1 _  H hR) ⟨k_cwB C tW_6_145 tW_6_142 tW_1_9 okX7_allLines rfl rfl ⟨Nat.le_of_ble_eq_true rfl, Nat.le_of_ble_eq_true rfl⟩, C.w tW_6_143, C.w tW_6_144⟩ hi3 rfl rfl rfl rfl (Nat.le_of_ble_eq_true rfl) dX7_ofPage_24 ⟨Nat.le_of_ble_eq_true rfl, Nat.le_of_ble_eq_true rfl⟩) (fun r4 w1 hw_ => ?_)
    obtain ⟨rfl, H⟩ := hw_
    refine k_lv (pc := 27) [0, 1, 2, 3] (lv' := [(0, .ref v0), (1, .ref v1), (2, .int v2), (3, .int v3)]) rfl ?_
    exact B27  v0 v1 v2 v3 r4 H
  · have H := H.2 c_8
    refine k_aload_n C 1 (pc := 11) dX7_ofPage_11 rfl rfl ?_
    obtain ⟨x29, hx29, H⟩ := H
    obtain ⟨a29, ha29, H⟩ := H
    refine l_getL C hR (pc := 12) hx29 2 (Nat.lt_of_lt_of_le (Nat.lt_succ_self _) (Nat.le_of_ble_eq_true rfl)) (ref := "WidowWatchLaw$Plan") tW_6_95 rfl (v := .ref a29) (by show some (va_rf x29.2.2) = _; rw [ha29]; rfl) dX7_ofPage_12 ?_
    refine k_iload_n C 2 (pc := 15) dX7_ofPage_15 rfl rfl ?_
    refine k_iconst C (pc := 16) (v := (1 : Int32)) dX7_ofPage_16 rfl ?_
    refine k_iadd C (pc := 17) dX7_ofPage_17 ?_
    obtain ⟨n30, f30, k30, hx_, hk_, hl_, hn_, H⟩ := H
    refine k_eq (pc := 18) (st' := [.int (nI k30), .ref a29]) rfl rfl (by rw [hk_]) ?_
    refine l_iald C hR (pc := 18) hx_ hl_ hn_ dX7_ofPage_18 ?_
    refine k_goto C (pc := 19) (tgt := 27) dX7_ofPage_19 (by decide) ?_
    refine k_lv (pc := 27) [0, 1, 2, 3] (lv' := [(0, .ref v0), (1, .ref v1), (2, .int v2), (3, .int v3)]) rfl ?_
    exact B27  v0 v1 v2 v3 (f30 k30) H
/-! WidowWatchLaw$Book.ofPlan(LWidowWatchLaw$Plan;I)I -/
theorem dX7_ofPlan_0 : decode cX7_ofPlan 0 = .ok (.iconst 0, 1) := by decide +kernel
theorem dX7_ofPlan_1 : decode cX7_ofPlan 1 = .ok (.istore_n 3, 1) := by decide +kernel
theorem dX7_ofPlan_2 : decode cX7_ofPlan 2 = .ok (.iconst 0, 1) := by decide +kernel
theorem dX7_ofPlan_3 : decode cX7_ofPlan 3 = .ok (.istore 4, 2) := by decide +kernel
theorem dX7_ofPlan_5 : decode cX7_ofPlan 5 = .ok (.iload 4, 2) := by decide +kernel
theorem dX7_ofPlan_7 : decode cX7_ofPlan 7 = .ok (.aload_n 1, 1) := by decide +kernel
theorem dX7_ofPlan_8 : decode cX7_ofPlan 8 = .ok (.getfield 74, 3) := by decide +kernel
theorem dX7_ofPlan_11 : decode cX7_ofPlan 11 = .ok (.arraylength, 1) := by decide +kernel
theorem dX7_ofPlan_12 : decode cX7_ofPlan 12 = .ok (.if_icmp .ge 159, 3) := by decide +kernel
theorem dX7_ofPlan_15 : decode cX7_ofPlan 15 = .ok (.aload_n 0, 1) := by decide +kernel
theorem dX7_ofPlan_16 : decode cX7_ofPlan 16 = .ok (.aload_n 1, 1) := by decide +kernel
theorem dX7_ofPlan_17 : decode cX7_ofPlan 17 = .ok (.aload_n 1, 1) := by decide +kernel
theorem dX7_ofPlan_18 : decode cX7_ofPlan 18 = .ok (.getfield 74, 3) := by decide +kernel
theorem dX7_ofPlan_21 : decode cX7_ofPlan 21 = .ok (.iload 4, 2) := by decide +kernel
theorem dX7_ofPlan_23 : decode cX7_ofPlan 23 = .ok (.iaload, 1) := by decide +kernel
theorem dX7_ofPlan_24 : decode cX7_ofPlan 24 = .ok (.invokevirtual 104, 3) := by decide +kernel
theorem dX7_ofPlan_27 : decode cX7_ofPlan 27 = .ok (.istore 5, 2) := by decide +kernel
theorem dX7_ofPlan_29 : decode cX7_ofPlan 29 = .ok (.iload_n 2, 1) := by decide +kernel
theorem dX7_ofPlan_30 : decode cX7_ofPlan 30 = .ok (.iconst 2, 1) := by decide +kernel
theorem dX7_ofPlan_31 : decode cX7_ofPlan 31 = .ok (.if_icmp .ne 21, 3) := by decide +kernel
theorem dX7_ofPlan_34 : decode cX7_ofPlan 34 = .ok (.iload_n 3, 1) := by decide +kernel
theorem dX7_ofPlan_35 : decode cX7_ofPlan 35 = .ok (.aload_n 0, 1) := by decide +kernel
theorem dX7_ofPlan_36 : decode cX7_ofPlan 36 = .ok (.aload_n 1, 1) := by decide +kernel
theorem dX7_ofPlan_37 : decode cX7_ofPlan 37 = .ok (.iload 4, 2) := by decide +kernel
theorem dX7_ofPlan_39 : decode cX7_ofPlan 39 = .ok (.invokevirtual 112, 3) := by decide +kernel
theorem dX7_ofPlan_42 : decode cX7_ofPlan 42 = .ok (.ifCond .eq 7, 3) := by decide +kernel
theorem dX7_ofPlan_45 : decode cX7_ofPlan 45 = .ok (.iconst 1, 1) := by decide +kernel
theorem dX7_ofPlan_46 : decode cX7_ofPlan 46 = .ok (.goto 4, 3) := by decide +kernel
theorem dX7_ofPlan_49 : decode cX7_ofPlan 49 = .ok (.iconst 0, 1) := by decide +kernel
theorem dX7_ofPlan_50 : decode cX7_ofPlan 50 = .ok (.iadd, 1) := by decide +kernel
theorem dX7_ofPlan_51 : decode cX7_ofPlan 51 = .ok (.istore_n 3, 1) := by decide +kernel
theorem dX7_ofPlan_52 : decode cX7_ofPlan 52 = .ok (.iload_n 2, 1) := by decide +kernel
theorem dX7_ofPlan_53 : decode cX7_ofPlan 53 = .ok (.iconst 3, 1) := by decide +kernel
theorem dX7_ofPlan_54 : decode cX7_ofPlan 54 = .ok (.if_icmp .ne 25, 3) := by decide +kernel
theorem dX7_ofPlan_57 : decode cX7_ofPlan 57 = .ok (.iload_n 3, 1) := by decide +kernel
theorem dX7_ofPlan_58 : decode cX7_ofPlan 58 = .ok (.iload 4, 2) := by decide +kernel
theorem dX7_ofPlan_60 : decode cX7_ofPlan 60 = .ok (.ifCond .le 16, 3) := by decide +kernel
theorem dX7_ofPlan_63 : decode cX7_ofPlan 63 = .ok (.iload 5, 2) := by decide +kernel
theorem dX7_ofPlan_65 : decode cX7_ofPlan 65 = .ok (.bipush 100, 2) := by decide +kernel
theorem dX7_ofPlan_67 : decode cX7_ofPlan 67 = .ok (.irem, 1) := by decide +kernel
theorem dX7_ofPlan_68 : decode cX7_ofPlan 68 = .ok (.iconst 1, 1) := by decide +kernel
theorem dX7_ofPlan_69 : decode cX7_ofPlan 69 = .ok (.if_icmp .ne 7, 3) := by decide +kernel
theorem dX7_ofPlan_72 : decode cX7_ofPlan 72 = .ok (.iconst 1, 1) := by decide +kernel
theorem dX7_ofPlan_73 : decode cX7_ofPlan 73 = .ok (.goto 4, 3) := by decide +kernel
theorem dX7_ofPlan_76 : decode cX7_ofPlan 76 = .ok (.iconst 0, 1) := by decide +kernel
theorem dX7_ofPlan_77 : decode cX7_ofPlan 77 = .ok (.iadd, 1) := by decide +kernel
theorem dX7_ofPlan_78 : decode cX7_ofPlan 78 = .ok (.istore_n 3, 1) := by decide +kernel
theorem dX7_ofPlan_79 : decode cX7_ofPlan 79 = .ok (.iload_n 2, 1) := by decide +kernel
theorem dX7_ofPlan_80 : decode cX7_ofPlan 80 = .ok (.iconst 4, 1) := by decide +kernel
theorem dX7_ofPlan_81 : decode cX7_ofPlan 81 = .ok (.if_icmp .ne 42, 3) := by decide +kernel
theorem dX7_ofPlan_84 : decode cX7_ofPlan 84 = .ok (.iload_n 3, 1) := by decide +kernel
theorem dX7_ofPlan_85 : decode cX7_ofPlan 85 = .ok (.iload 4, 2) := by decide +kernel
theorem dX7_ofPlan_87 : decode cX7_ofPlan 87 = .ok (.ifCond .le 33, 3) := by decide +kernel
theorem dX7_ofPlan_90 : decode cX7_ofPlan 90 = .ok (.iload 5, 2) := by decide +kernel
theorem dX7_ofPlan_92 : decode cX7_ofPlan 92 = .ok (.bipush 100, 2) := by decide +kernel
theorem dX7_ofPlan_94 : decode cX7_ofPlan 94 = .ok (.irem, 1) := by decide +kernel
theorem dX7_ofPlan_95 : decode cX7_ofPlan 95 = .ok (.ifCond .ne 25, 3) := by decide +kernel
theorem dX7_ofPlan_98 : decode cX7_ofPlan 98 = .ok (.aload_n 0, 1) := by decide +kernel
theorem dX7_ofPlan_99 : decode cX7_ofPlan 99 = .ok (.getfield 28, 3) := by decide +kernel
theorem dX7_ofPlan_102 : decode cX7_ofPlan 102 = .ok (.iload 5, 2) := by decide +kernel
theorem dX7_ofPlan_104 : decode cX7_ofPlan 104 = .ok (.bipush 100, 2) := by decide +kernel
theorem dX7_ofPlan_106 : decode cX7_ofPlan 106 = .ok (.idiv, 1) := by decide +kernel
theorem dX7_ofPlan_107 : decode cX7_ofPlan 107 = .ok (.iconst 1, 1) := by decide +kernel
theorem dX7_ofPlan_108 : decode cX7_ofPlan 108 = .ok (.isub, 1) := by decide +kernel
theorem dX7_ofPlan_109 : decode cX7_ofPlan 109 = .ok (.aaload, 1) := by decide +kernel
theorem dX7_ofPlan_110 : decode cX7_ofPlan 110 = .ok (.getfield 54, 3) := by decide +kernel
theorem dX7_ofPlan_113 : decode cX7_ofPlan 113 = .ok (.ifCond .eq 7, 3) := by decide +kernel
theorem dX7_ofPlan_116 : decode cX7_ofPlan 116 = .ok (.iconst 1, 1) := by decide +kernel
theorem dX7_ofPlan_117 : decode cX7_ofPlan 117 = .ok (.goto 4, 3) := by decide +kernel
theorem dX7_ofPlan_120 : decode cX7_ofPlan 120 = .ok (.iconst 0, 1) := by decide +kernel
theorem dX7_ofPlan_121 : decode cX7_ofPlan 121 = .ok (.iadd, 1) := by decide +kernel
theorem dX7_ofPlan_122 : decode cX7_ofPlan 122 = .ok (.istore_n 3, 1) := by decide +kernel
theorem dX7_ofPlan_123 : decode cX7_ofPlan 123 = .ok (.iload_n 2, 1) := by decide +kernel
theorem dX7_ofPlan_124 : decode cX7_ofPlan 124 = .ok (.iconst 5, 1) := by decide +kernel
theorem dX7_ofPlan_125 : decode cX7_ofPlan 125 = .ok (.if_icmp .ne 40, 3) := by decide +kernel
theorem dX7_ofPlan_128 : decode cX7_ofPlan 128 = .ok (.iload 4, 2) := by decide +kernel
theorem dX7_ofPlan_130 : decode cX7_ofPlan 130 = .ok (.iconst 1, 1) := by decide +kernel
theorem dX7_ofPlan_131 : decode cX7_ofPlan 131 = .ok (.iadd, 1) := by decide +kernel
theorem dX7_ofPlan_132 : decode cX7_ofPlan 132 = .ok (.aload_n 1, 1) := by decide +kernel
theorem dX7_ofPlan_133 : decode cX7_ofPlan 133 = .ok (.getfield 74, 3) := by decide +kernel
theorem dX7_ofPlan_136 : decode cX7_ofPlan 136 = .ok (.arraylength, 1) := by decide +kernel
theorem dX7_ofPlan_137 : decode cX7_ofPlan 137 = .ok (.if_icmp .ge 28, 3) := by decide +kernel
theorem dX7_ofPlan_140 : decode cX7_ofPlan 140 = .ok (.iload_n 3, 1) := by decide +kernel
theorem dX7_ofPlan_141 : decode cX7_ofPlan 141 = .ok (.aload_n 0, 1) := by decide +kernel
theorem dX7_ofPlan_142 : decode cX7_ofPlan 142 = .ok (.getfield 13, 3) := by decide +kernel
theorem dX7_ofPlan_145 : decode cX7_ofPlan 145 = .ok (.aload_n 1, 1) := by decide +kernel
theorem dX7_ofPlan_146 : decode cX7_ofPlan 146 = .ok (.getfield 74, 3) := by decide +kernel
theorem dX7_ofPlan_149 : decode cX7_ofPlan 149 = .ok (.iload 4, 2) := by decide +kernel
theorem dX7_ofPlan_151 : decode cX7_ofPlan 151 = .ok (.iconst 1, 1) := by decide +kernel
theorem dX7_ofPlan_152 : decode cX7_ofPlan 152 = .ok (.iadd, 1) := by decide +kernel
theorem dX7_ofPlan_153 : decode cX7_ofPlan 153 = .ok (.iaload, 1) := by decide +kernel
theorem dX7_ofPlan_154 : decode cX7_ofPlan 154 = .ok (.isub, 1) := by decide +kernel
theorem dX7_ofPlan_155 : decode cX7_ofPlan 155 = .ok (.aload_n 1, 1) := by decide +kernel
theorem dX7_ofPlan_156 : decode cX7_ofPlan 156 = .ok (.getfield 74, 3) := by decide +kernel
theorem dX7_ofPlan_159 : decode cX7_ofPlan 159 = .ok (.iload 4, 2) := by decide +kernel
theorem dX7_ofPlan_161 : decode cX7_ofPlan 161 = .ok (.iaload, 1) := by decide +kernel
theorem dX7_ofPlan_162 : decode cX7_ofPlan 162 = .ok (.iadd, 1) := by decide +kernel
theorem dX7_ofPlan_163 : decode cX7_ofPlan 163 = .ok (.iadd, 1) := by decide +kernel
theorem dX7_ofPlan_164 : decode cX7_ofPlan 164 = .ok (.istore_n 3, 1) := by decide +kernel
theorem dX7_ofPlan_165 : decode cX7_ofPlan 165 = .ok (.iinc 4 1, 3) := by decide +kernel
theorem dX7_ofPlan_168 : decode cX7_ofPlan 168 = .ok (.goto (-163), 3) := by decide +kernel
theorem dX7_ofPlan_171 : decode cX7_ofPlan 171 = .ok (.iload_n 2, 1) := by decide +kernel
theorem dX7_ofPlan_172 : decode cX7_ofPlan 172 = .ok (.ifCond .ne 10, 3) := by decide +kernel
theorem dX7_ofPlan_175 : decode cX7_ofPlan 175 = .ok (.aload_n 1, 1) := by decide +kernel
theorem dX7_ofPlan_176 : decode cX7_ofPlan 176 = .ok (.getfield 62, 3) := by decide +kernel
theorem dX7_ofPlan_179 : decode cX7_ofPlan 179 = .ok (.goto 31, 3) := by decide +kernel
theorem dX7_ofPlan_182 : decode cX7_ofPlan 182 = .ok (.iload_n 2, 1) := by decide +kernel
theorem dX7_ofPlan_183 : decode cX7_ofPlan 183 = .ok (.iconst 1, 1) := by decide +kernel
theorem dX7_ofPlan_184 : decode cX7_ofPlan 184 = .ok (.if_icmp .ne 11, 3) := by decide +kernel
theorem dX7_ofPlan_187 : decode cX7_ofPlan 187 = .ok (.aload_n 1, 1) := by decide +kernel
theorem dX7_ofPlan_188 : decode cX7_ofPlan 188 = .ok (.getfield 74, 3) := by decide +kernel
theorem dX7_ofPlan_191 : decode cX7_ofPlan 191 = .ok (.arraylength, 1) := by decide +kernel
theorem dX7_ofPlan_192 : decode cX7_ofPlan 192 = .ok (.goto 18, 3) := by decide +kernel
theorem dX7_ofPlan_195 : decode cX7_ofPlan 195 = .ok (.iload_n 2, 1) := by decide +kernel
theorem dX7_ofPlan_196 : decode cX7_ofPlan 196 = .ok (.bipush 6, 2) := by decide +kernel
theorem dX7_ofPlan_198 : decode cX7_ofPlan 198 = .ok (.if_icmp .ne 11, 3) := by decide +kernel
theorem dX7_ofPlan_201 : decode cX7_ofPlan 201 = .ok (.aload_n 0, 1) := by decide +kernel
theorem dX7_ofPlan_202 : decode cX7_ofPlan 202 = .ok (.aload_n 1, 1) := by decide +kernel
theorem dX7_ofPlan_203 : decode cX7_ofPlan 203 = .ok (.invokevirtual 108, 3) := by decide +kernel
theorem dX7_ofPlan_206 : decode cX7_ofPlan 206 = .ok (.goto 4, 3) := by decide +kernel
theorem dX7_ofPlan_209 : decode cX7_ofPlan 209 = .ok (.iload_n 3, 1) := by decide +kernel
theorem dX7_ofPlan_210 : decode cX7_ofPlan 210 = .ok (.ireturn, 1) := by decide +kernel
theorem okX7_ofPlan : okY yX7_ofPlan 2 := ⟨by decide +kernel, by decide +kernel, by decide +kernel⟩
def wpX7_ofPlan_b165 (mu : Mu) (Post : Int32 → Prop) (K5 : Nat → Nat → Int32 → Int32 → Int32 → Prop) (v0 : Nat) (v1 : Nat) (v2 : Int32) (v3 : Int32) (v4 : Int32) : Prop := K5 v0 v1 v2 v3 (v4 + (1 : Int32))
def wpX7_ofPlan_b123 (mu : Mu) (Post : Int32 → Prop) (K5 : Nat → Nat → Int32 → Int32 → Int32 → Prop) (v0 : Nat) (v1 : Nat) (v2 : Int32) (v3 : Int32) (v4 : Int32) : Prop := (¬ v2 = (5 : Int32) → wpX7_ofPlan_b165 mu Post K5 v0 v1 v2 v3 v4) ∧ (v2 = (5 : Int32) → ∃ x12, mL mu v1 = some x12 ∧ ∃ a12, x12.2.2 = some a12 ∧ ∃ n13 f13, mI mu a12 = some (n13, f13) ∧ ((nI n13) ≤ (v4 + (1 : Int32)) → wpX7_ofPlan_b165 mu Post K5 v0 v1 v2 v3 v4) ∧ (¬ (nI n13) ≤ (v4 + (1 : Int32)) → ∃ x14, mB mu v0 = some x14 ∧ ∃ x15, mL mu v1 = some x15 ∧ ∃ a15, x15.2.2 = some a15 ∧ ∃ n16 f16 k16, mI mu a15 = some (n16, f16) ∧ v4 + (1 : Int32) = nI k16 ∧ k16 < n16 ∧ n16 ≤ 1000 ∧ ∃ x17, mL mu v1 = some x17 ∧ ∃ a17, x17.2.2 = some a17 ∧ ∃ n18 f18 k18, mI mu a17 = some (n18, f18) ∧ v4 = nI k18 ∧ k18 < n18 ∧ n18 ≤ 1000 ∧ wpX7_ofPlan_b165 mu Post K5 v0 v1 v2 (v3 + ((x14.2.1 - (f16 k16)) + (f18 k18))) v4))
def wpX7_ofPlan_b121 (mu : Mu) (Post : Int32 → Prop) (K5 : Nat → Nat → Int32 → Int32 → Int32 → Prop) (v0 : Nat) (v1 : Nat) (v2 : Int32) (v4 : Int32) (s0 : Int32) (s1 : Int32) : Prop := wpX7_ofPlan_b123 mu Post K5 v0 v1 v2 (s0 + s1) v4
def wpX7_ofPlan_b120 (mu : Mu) (Post : Int32 → Prop) (K5 : Nat → Nat → Int32 → Int32 → Int32 → Prop) (v0 : Nat) (v1 : Nat) (v2 : Int32) (v4 : Int32) (s0 : Int32) : Prop := wpX7_ofPlan_b121 mu Post K5 v0 v1 v2 v4 s0 (0 : Int32)
def wpX7_ofPlan_b79 (mu : Mu) (Post : Int32 → Prop) (K5 : Nat → Nat → Int32 → Int32 → Int32 → Prop) (v0 : Nat) (v1 : Nat) (v2 : Int32) (v3 : Int32) (v4 : Int32) (v5 : Int32) : Prop := (¬ v2 = (4 : Int32) → wpX7_ofPlan_b123 mu Post K5 v0 v1 v2 v3 v4) ∧ (v2 = (4 : Int32) → (v4 ≤ 0 → wpX7_ofPlan_b120 mu Post K5 v0 v1 v2 v4 v3) ∧ (¬ v4 ≤ 0 → (¬ (v5 - v5 / (100 : Int32) * (100 : Int32)) = 0 → wpX7_ofPlan_b120 mu Post K5 v0 v1 v2 v4 v3) ∧ ((v5 - v5 / (100 : Int32) * (100 : Int32)) = 0 → ∃ x19, mB mu v0 = some x19 ∧ ∃ a19, x19.2.2.2.2.2.1 = some a19 ∧ ∃ n20 f20 k20, mQ mu a19 = some (2, n20, f20) ∧ (v5 / (100 : Int32)) - (1 : Int32) = nI k20 ∧ k20 < n20 ∧ n20 ≤ 1000 ∧ ∃ a20, f20 k20 = some a20 ∧ ∃ x21, mP mu a20 = some x21 ∧ (x21.1 = 0 → wpX7_ofPlan_b120 mu Post K5 v0 v1 v2 v4 v3) ∧ (¬ x21.1 = 0 → wpX7_ofPlan_b121 mu Post K5 v0 v1 v2 v4 v3 (1 : Int32)))))
def wpX7_ofPlan_b77 (mu : Mu) (Post : Int32 → Prop) (K5 : Nat → Nat → Int32 → Int32 → Int32 → Prop) (v0 : Nat) (v1 : Nat) (v2 : Int32) (v4 : Int32) (v5 : Int32) (s0 : Int32) (s1 : Int32) : Prop := wpX7_ofPlan_b79 mu Post K5 v0 v1 v2 (s0 + s1) v4 v5
def wpX7_ofPlan_b76 (mu : Mu) (Post : Int32 → Prop) (K5 : Nat → Nat → Int32 → Int32 → Int32 → Prop) (v0 : Nat) (v1 : Nat) (v2 : Int32) (v4 : Int32) (v5 : Int32) (s0 : Int32) : Prop := wpX7_ofPlan_b77 mu Post K5 v0 v1 v2 v4 v5 s0 (0 : Int32)
def wpX7_ofPlan_b52 (mu : Mu) (Post : Int32 → Prop) (K5 : Nat → Nat → Int32 → Int32 → Int32 → Prop) (v0 : Nat) (v1 : Nat) (v2 : Int32) (v3 : Int32) (v4 : Int32) (v5 : Int32) : Prop := (¬ v2 = (3 : Int32) → wpX7_ofPlan_b79 mu Post K5 v0 v1 v2 v3 v4 v5) ∧ (v2 = (3 : Int32) → (v4 ≤ 0 → wpX7_ofPlan_b76 mu Post K5 v0 v1 v2 v4 v5 v3) ∧ (¬ v4 ≤ 0 → (¬ (v5 - v5 / (100 : Int32) * (100 : Int32)) = (1 : Int32) → wpX7_ofPlan_b76 mu Post K5 v0 v1 v2 v4 v5 v3) ∧ ((v5 - v5 / (100 : Int32) * (100 : Int32)) = (1 : Int32) → wpX7_ofPlan_b77 mu Post K5 v0 v1 v2 v4 v5 v3 (1 : Int32))))
def wpX7_ofPlan_b50 (mu : Mu) (Post : Int32 → Prop) (K5 : Nat → Nat → Int32 → Int32 → Int32 → Prop) (v0 : Nat) (v1 : Nat) (v2 : Int32) (v4 : Int32) (v5 : Int32) (s0 : Int32) (s1 : Int32) : Prop := wpX7_ofPlan_b52 mu Post K5 v0 v1 v2 (s0 + s1) v4 v5
def wpX7_ofPlan_L5 (mu : Mu) (Post : Int32 → Prop)  : Nat → Nat → Nat → Int32 → Int32 → Int32 → Prop
  | 0 => fun _ _ _ _ _ => False
  | nn5 + 1 => fun v0 v1 v2 v3 v4 => ∃ x1, mL mu v1 = some x1 ∧ ∃ a1, x1.2.2 = some a1 ∧ ∃ n2 f2, mI mu a1 = some (n2, f2) ∧ ((nI n2) ≤ v4 → (¬ v2 = 0 → (¬ v2 = (1 : Int32) → (¬ v2 = (6 : Int32) → Post v3) ∧ (v2 = (6 : Int32) → ∃ x3, mB mu v0 = some x3 ∧ wpX7_allLines mu v0 v1 (fun r4 => Post r4))) ∧ (v2 = (1 : Int32) → ∃ x5, mL mu v1 = some x5 ∧ ∃ a5, x5.2.2 = some a5 ∧ ∃ n6 f6, mI mu a5 = some (n6, f6) ∧ Post (nI n6))) ∧ (v2 = 0 → ∃ x7, mL mu v1 = some x7 ∧ Post x7.1)) ∧ (¬ (nI n2) ≤ v4 → ∃ x8, mL mu v1 = some x8 ∧ ∃ a8, x8.2.2 = some a8 ∧ ∃ n9 f9 k9, mI mu a8 = some (n9, f9) ∧ v4 = nI k9 ∧ k9 < n9 ∧ n9 ≤ 1000 ∧ ∃ x10, mB mu v0 = some x10 ∧ wpX7_place mu v0 v1 (f9 k9) (fun r11 => (¬ v2 = (2 : Int32) → wpX7_ofPlan_b52 mu Post (wpX7_ofPlan_L5 mu Post  nn5) v0 v1 v2 v3 v4 r11) ∧ (v2 = (2 : Int32) → ∃ x22, mB mu v0 = some x22 ∧ wpX7_isWidow mu v0 v1 v4 (fun r23 => (r23 = 0 → wpX7_ofPlan_b50 mu Post (wpX7_ofPlan_L5 mu Post  nn5) v0 v1 v2 v4 r11 v3 (0 : Int32)) ∧ (¬ r23 = 0 → wpX7_ofPlan_b50 mu Post (wpX7_ofPlan_L5 mu Post  nn5) v0 v1 v2 v4 r11 v3 (1 : Int32))))))
def wpX7_ofPlan (mu : Mu) (v0 : Nat) (v1 : Nat) (v2 : Int32) (Post : Int32 → Prop) : Prop := ∃ m_, wpX7_ofPlan_L5 mu Post  m_ v0 v1 v2 (0 : Int32) (0 : Int32)
set_option maxHeartbeats 4000000 in
set_option maxRecDepth 100000 in
theorem conX7_ofPlan (l : Launch) (D : va_G) (cA : Nat → ClassId) (mu : Mu) (v0 : Nat) (v1 : Nat) (v2 : Int32) (Post : Int32 → Prop)  (H : wpX7_ofPlan mu v0 v1 v2 Post) {w0 ws0 : va_W} (hR : LR cA w0 ws0 mu) : ConN l D cA yX7_ofPlan (wm yX7_ofPlan cX7_ofPlan 6 (some .int)) { frames := 3, cells := 0, slots := 0, locals := 79 } ws0 [.ref v0, .ref v1, .int v2] 0 0 (PI (fun r w1 => w1 = ws0 ∧ Post r)) := by
  refine ConN.of (by decide) (Nat.le_of_ble_eq_true rfl) ?_
  intro p e s m args below meth c C hF hr hini
  have B165 : ∀ (K5 : Nat → Nat → Int32 → Int32 → Int32 → Prop) (hK5 : ∀ (v0 : Nat) (v1 : Nat) (v2 : Int32) (v3 : Int32) (v4 : Int32), K5 v0 v1 v2 v3 v4 → Kf p l e { frames := 3, cells := 0, slots := 0, locals := 79 } s m args below meth c D (va_A ws0 s.heap.size) 6 0 0 (MQ below (QC D ws0 s.heap.size (PI (fun r w1 => w1 = ws0 ∧ Post r))) args s 0 0 (va_A ws0 s.heap.size)) ws0 5 [(0, .ref v0), (1, .ref v1), (2, .int v2), (3, .int v3), (4, .int v4)] []) (v0 : Nat) (v1 : Nat) (v2 : Int32) (v3 : Int32) (v4 : Int32), wpX7_ofPlan_b165 mu Post K5 v0 v1 v2 v3 v4 → Kf p l e { frames := 3, cells := 0, slots := 0, locals := 79 } s m args below meth c D (va_A ws0 s.heap.size) 6 0 0 (MQ below (QC D ws0 s.heap.size (PI (fun r w1 => w1 = ws0 ∧ Post r))) args s 0 0 (va_A ws0 s.heap.size)) ws0 165 [(0, .ref v0), (1, .ref v1), (2, .int v2), (3, .int v3), (4, .int v4)] [] := by
    intro K5 hK5 v0 v1 v2 v3 v4 H
    have H : K5 v0 v1 v2 v3 (v4 + (1 : Int32)) := H
    refine k_iinc C (pc := 165) (k := 4) (v := v4 + (1 : Int32)) dX7_ofPlan_165 rfl rfl (Nat.lt_of_lt_of_le (Nat.lt_succ_self _) (Nat.le_of_ble_eq_true rfl)) (lv' := [(4, .int (v4 + (1 : Int32))), (0, .ref v0), (1, .ref v1), (2, .int v2), (3, .int v3)]) rfl ?_
    refine k_goto C (pc := 168) (tgt := 5) dX7_ofPlan_168 (by decide) ?_
    refine k_lv (pc := 5) [1, 2, 3, 4, 0] (lv' := [(0, .ref v0), (1, .ref v1), (2, .int v2), (3, .int v3), (4, .int (v4 + (1 : Int32)))]) rfl ?_
    exact hK5 v0 v1 v2 v3 (v4 + (1 : Int32)) H
  have B123 : ∀ (K5 : Nat → Nat → Int32 → Int32 → Int32 → Prop) (hK5 : ∀ (v0 : Nat) (v1 : Nat) (v2 : Int32) (v3 : Int32) (v4 : Int32), K5 v0 v1 v2 v3 v4 → Kf p l e { frames := 3, cells := 0, slots := 0, locals := 79 } s m args below meth c D (va_A ws0 s.heap.size) 6 0 0 (MQ below (QC D ws0 s.heap.size (PI (fun r w1 => w1 = ws0 ∧ Post r))) args s 0 0 (va_A ws0 s.heap.size)) ws0 5 [(0, .ref v0), (1, .ref v1), (2, .int v2), (3, .int v3), (4, .int v4)] []) (v0 : Nat) (v1 : Nat) (v2 : Int32) (v3 : Int32) (v4 : Int32), wpX7_ofPlan_b123 mu Post K5 v0 v1 v2 v3 v4 → Kf p l e { frames := 3, cells := 0, slots := 0, locals := 79 } s m args below meth c D (va_A ws0 s.heap.size) 6 0 0 (MQ below (QC D ws0 s.heap.size (PI (fun r w1 => w1 = ws0 ∧ Post r))) args s 0 0 (va_A ws0 s.heap.size)) ws0 123 [(0, .ref v0), (1, .ref v1), (2, .int v2), (3, .int v3), (4, .int v4)] [] := by
    intro K5 hK5 v0 v1 v2 v3 v4 H
    have H : (¬ v2 = (5 : Int32) → wpX7_ofPlan_b165 mu Post K5 v0 v1 v2 v3 v4) ∧ (v2 = (5 : Int32) → ∃ x12, mL mu v1 = some x12 ∧ ∃ a12, x12.2.2 = some a12 ∧ ∃ n13 f13, mI mu a12 = some (n13, f13) ∧ ((nI n13) ≤ (v4 + (1 : Int32)) → wpX7_ofPlan_b165 mu Post K5 v0 v1 v2 v3 v4) ∧ (¬ (nI n13) ≤ (v4 + (1 : Int32)) → ∃ x14, mB mu v0 = some x14 ∧ ∃ x15, mL mu v1 = some x15 ∧ ∃ a15, x15.2.2 = some a15 ∧ ∃ n16 f16 k16, mI mu a15 = some (n16, f16) ∧ v4 + (1 : Int32) = nI k16 ∧ k16 < n16 ∧ n16 ≤ 1000 ∧ ∃ x17, mL mu v1 = some x17 ∧ ∃ a17, x17.2.2 = some a17 ∧ ∃ n18 f18 k18, mI mu a17 = some (n18, f18) ∧ v4 = nI k18 ∧ k18 < n18 ∧ n18 ≤ 1000 ∧ wpX7_ofPlan_b165 mu Post K5 v0 v1 v2 (v3 + ((x14.2.1 - (f16 k16)) + (f18 k18))) v4)) := H
    refine k_iload_n C 2 (pc := 123) dX7_ofPlan_123 rfl rfl ?_
    refine k_iconst C (pc := 124) (v := (5 : Int32)) dX7_ofPlan_124 rfl ?_
    refine k_icmp_ne C (pc := 125) (tgt := 165) dX7_ofPlan_125 (by decide) (fun c_125 => ?_) (fun c_125 => ?_)
    · have H := H.1 c_125
      refine k_lv (pc := 165) [0, 1, 2, 3, 4] (lv' := [(0, .ref v0), (1, .ref v1), (2, .int v2), (3, .int v3), (4, .int v4)]) rfl ?_
      exact B165 K5 hK5 v0 v1 v2 v3 v4 H
    · have H := H.2 c_125
      refine k_iload C 4 (pc := 128) dX7_ofPlan_128 rfl ?_
      refine k_iconst C (pc := 130) (v := (1 : Int32)) dX7_ofPlan_130 rfl ?_
      refine k_iadd C (pc := 131) dX7_ofPlan_131 ?_
      refine k_aload_n C 1 (pc := 132) dX7_ofPlan_132 rfl rfl ?_
      obtain ⟨x12, hx12, H⟩ := H
      obtain ⟨a12, ha12, H⟩ := H
      refine l_getL C hR (pc := 133) hx12 2 (Nat.lt_of_lt_of_le (Nat.lt_succ_self _) (Nat.le_of_ble_eq_true rfl)) (ref := "WidowWatchLaw$Plan") tW_6_95 rfl (v := .ref a12) (by show some (va_rf x12.2.2) = _; rw [ha12]; rfl) dX7_ofPlan_133 ?_
      obtain ⟨n13, f13, hx_, H⟩ := H
      refine l_alen C hR (pc := 136) hx_ dX7_ofPlan_136 ?_
      refine k_icmp_ge C (pc := 137) (tgt := 165) dX7_ofPlan_137 (by decide) (fun c_137 => ?_) (fun c_137 => ?_)
      · have H := H.1 c_137
        refine k_lv (pc := 165) [0, 1, 2, 3, 4] (lv' := [(0, .ref v0), (1, .ref v1), (2, .int v2), (3, .int v3), (4, .int v4)]) rfl ?_
        exact B165 K5 hK5 v0 v1 v2 v3 v4 H
      · have H := H.2 c_137
        refine k_iload_n C 3 (pc := 140) dX7_ofPlan_140 rfl rfl ?_
        refine k_aload_n C 0 (pc := 141) dX7_ofPlan_141 rfl rfl ?_
        obtain ⟨x14, hx14, H⟩ := H
        refine l_getB C hR (pc := 142) hx14 1 (Nat.lt_of_lt_of_le (Nat.lt_succ_self _) (Nat.le_of_ble_eq_true rfl)) (ref := "WidowWatchLaw$Book") tW_2_64 rfl (v := .int x14.2.1) rfl dX7_ofPlan_142 ?_
        refine k_aload_n C 1 (pc := 145) dX7_ofPlan_145 rfl rfl ?_
        obtain ⟨x15, hx15, H⟩ := H
        obtain ⟨a15, ha15, H⟩ := H
        refine l_getL C hR (pc := 146) hx15 2 (Nat.lt_of_lt_of_le (Nat.lt_succ_self _) (Nat.le_of_ble_eq_true rfl)) (ref := "WidowWatchLaw$Plan") tW_6_95 rfl (v := .ref a15) (by show some (va_rf x15.2.2) = _; rw [ha15]; rfl) dX7_ofPlan_146 ?_
        refine k_iload C 4 (pc := 149) dX7_ofPlan_149 rfl ?_
        refine k_iconst C (pc := 151) (v := (1 : Int32)) dX7_ofPlan_151 rfl ?_
        refine k_iadd C (pc := 152) dX7_ofPlan_152 ?_
        obtain ⟨n16, f16, k16, hx_, hk_, hl_, hn_, H⟩ := H
        refine k_eq (pc := 153) (st' := [.int (nI k16), .ref a15, .int x14.2.1, .int v3]) rfl rfl (by rw [hk_]) ?_
        refine l_iald C hR (pc := 153) hx_ hl_ hn_ dX7_ofPlan_153 ?_
        refine k_isub C (pc := 154) dX7_ofPlan_154 ?_
        refine k_aload_n C 1 (pc := 155) dX7_ofPlan_155 rfl rfl ?_
        obtain ⟨x17, hx17, H⟩ := H
        obtain ⟨a17, ha17, H⟩ := H
        refine l_getL C hR (pc := 156) hx17 2 (Nat.lt_of_lt_of_le (Nat.lt_succ_self _) (Nat.le_of_ble_eq_true rfl)) (ref := "WidowWatchLaw$Plan") tW_6_95 rfl (v := .ref a17) (by show some (va_rf x17.2.2) = _; rw [ha17]; rfl) dX7_ofPlan_156 ?_
        refine k_iload C 4 (pc := 159) dX7_ofPlan_159 rfl ?_
        obtain ⟨n18, f18, k18, hx_, hk_, hl_, hn_, H⟩ := H
        refine k_eq (pc := 161) (st' := [.int (nI k18), .ref a17, .int (x14.2.1 - (f16 k16)), .int v3]) rfl rfl (by rw [hk_]) ?_
        refine l_iald C hR (pc := 161) hx_ hl_ hn_ dX7_ofPlan_161 ?_
        refine k_iadd C (pc := 162) dX7_ofPlan_162 ?_
        refine k_iadd C (pc := 163) dX7_ofPlan_163 ?_
        refine k_istore_n C (pc := 164) dX7_ofPlan_164 rfl (Nat.lt_of_lt_of_le (Nat.lt_succ_self _) (Nat.le_of_ble_eq_true rfl)) (lv' := [(3, .int (v3 + ((x14.2.1 - (f16 k16)) + (f18 k18)))), (0, .ref v0), (1, .ref v1), (2, .int v2), (4, .int v4)]) rfl ?_
        refine k_lv (pc := 165) [1, 2, 3, 0, 4] (lv' := [(0, .ref v0), (1, .ref v1), (2, .int v2), (3, .int (v3 + ((x14.2.1 - (f16 k16)) + (f18 k18)))), (4, .int v4)]) rfl ?_
        exact B165 K5 hK5 v0 v1 v2 (v3 + ((x14.2.1 - (f16 k16)) + (f18 k18))) v4 H
  have B121 : ∀ (K5 : Nat → Nat → Int32 → Int32 → Int32 → Prop) (hK5 : ∀ (v0 : Nat) (v1 : Nat) (v2 : Int32) (v3 : Int32) (v4 : Int32), K5 v0 v1 v2 v3 v4 → Kf p l e { frames := 3, cells := 0, slots := 0, locals := 79 } s m args below meth c D (va_A ws0 s.heap.size) 6 0 0 (MQ below (QC D ws0 s.heap.size (PI (fun r w1 => w1 = ws0 ∧ Post r))) args s 0 0 (va_A ws0 s.heap.size)) ws0 5 [(0, .ref v0), (1, .ref v1), (2, .int v2), (3, .int v3), (4, .int v4)] []) (v0 : Nat) (v1 : Nat) (v2 : Int32) (v4 : Int32) (s0 : Int32) (s1 : Int32), wpX7_ofPlan_b121 mu Post K5 v0 v1 v2 v4 s0 s1 → Kf p l e { frames := 3, cells := 0, slots := 0, locals := 79 } s m args below meth c D (va_A ws0 s.heap.size) 6 0 0 (MQ below (QC D ws0 s.heap.size (PI (fun r w1 => w1 = ws0 ∧ Post r))) args s 0 0 (va_A ws0 s.heap.size)) ws0 121 [(0, .ref v0), (1, .ref v1), (2, .int v2), (4, .int v4)] [.int s1, .int s0] := by
    intro K5 hK5 v0 v1 v2 v4 s0 s1 H
    have H : wpX7_ofPlan_b123 mu Post K5 v0 v1 v2 (s0 + s1) v4 := H
    refine k_iadd C (pc := 121) dX7_ofPlan_121 ?_
    refine k_istore_n C (pc := 122) dX7_ofPlan_122 rfl (Nat.lt_of_lt_of_le (Nat.lt_succ_self _) (Nat.le_of_ble_eq_true rfl)) (lv' := [(3, .int (s0 + s1)), (0, .ref v0), (1, .ref v1), (2, .int v2), (4, .int v4)]) rfl ?_
    refine k_lv (pc := 123) [1, 2, 3, 0, 4] (lv' := [(0, .ref v0), (1, .ref v1), (2, .int v2), (3, .int (s0 + s1)), (4, .int v4)]) rfl ?_
    exact B123 K5 hK5 v0 v1 v2 (s0 + s1) v4 H
  have B120 : ∀ (K5 : Nat → Nat → Int32 → Int32 → Int32 → Prop) (hK5 : ∀ (v0 : Nat) (v1 : Nat) (v2 : Int32) (v3 : Int32) (v4 : Int32), K5 v0 v1 v2 v3 v4 → Kf p l e { frames := 3, cells := 0, slots := 0, locals := 79 } s m args below meth c D (va_A ws0 s.heap.size) 6 0 0 (MQ below (QC D ws0 s.heap.size (PI (fun r w1 => w1 = ws0 ∧ Post r))) args s 0 0 (va_A ws0 s.heap.size)) ws0 5 [(0, .ref v0), (1, .ref v1), (2, .int v2), (3, .int v3), (4, .int v4)] []) (v0 : Nat) (v1 : Nat) (v2 : Int32) (v4 : Int32) (s0 : Int32), wpX7_ofPlan_b120 mu Post K5 v0 v1 v2 v4 s0 → Kf p l e { frames := 3, cells := 0, slots := 0, locals := 79 } s m args below meth c D (va_A ws0 s.heap.size) 6 0 0 (MQ below (QC D ws0 s.heap.size (PI (fun r w1 => w1 = ws0 ∧ Post r))) args s 0 0 (va_A ws0 s.heap.size)) ws0 120 [(0, .ref v0), (1, .ref v1), (2, .int v2), (4, .int v4)] [.int s0] := by
    intro K5 hK5 v0 v1 v2 v4 s0 H
    have H : wpX7_ofPlan_b121 mu Post K5 v0 v1 v2 v4 s0 (0 : Int32) := H
    refine k_iconst C (pc := 120) (v := (0 : Int32)) dX7_ofPlan_120 rfl ?_
    refine k_lv (pc := 121) [0, 1, 2, 3] (lv' := [(0, .ref v0), (1, .ref v1), (2, .int v2), (4, .int v4)]) rfl ?_
    exact B121 K5 hK5 v0 v1 v2 v4 s0 (0 : Int32) H
  have B79 : ∀ (K5 : Nat → Nat → Int32 → Int32 → Int32 → Prop) (hK5 : ∀ (v0 : Nat) (v1 : Nat) (v2 : Int32) (v3 : Int32) (v4 : Int32), K5 v0 v1 v2 v3 v4 → Kf p l e { frames := 3, cells := 0, slots := 0, locals := 79 } s m args below meth c D (va_A ws0 s.heap.size) 6 0 0 (MQ below (QC D ws0 s.heap.size (PI (fun r w1 => w1 = ws0 ∧ Post r))) args s 0 0 (va_A ws0 s.heap.size)) ws0 5 [(0, .ref v0), (1, .ref v1), (2, .int v2), (3, .int v3), (4, .int v4)] []) (v0 : Nat) (v1 : Nat) (v2 : Int32) (v3 : Int32) (v4 : Int32) (v5 : Int32), wpX7_ofPlan_b79 mu Post K5 v0 v1 v2 v3 v4 v5 → Kf p l e { frames := 3, cells := 0, slots := 0, locals := 79 } s m args below meth c D (va_A ws0 s.heap.size) 6 0 0 (MQ below (QC D ws0 s.heap.size (PI (fun r w1 => w1 = ws0 ∧ Post r))) args s 0 0 (va_A ws0 s.heap.size)) ws0 79 [(0, .ref v0), (1, .ref v1), (2, .int v2), (3, .int v3), (4, .int v4), (5, .int v5)] [] := by
    intro K5 hK5 v0 v1 v2 v3 v4 v5 H
    have H : (¬ v2 = (4 : Int32) → wpX7_ofPlan_b123 mu Post K5 v0 v1 v2 v3 v4) ∧ (v2 = (4 : Int32) → (v4 ≤ 0 → wpX7_ofPlan_b120 mu Post K5 v0 v1 v2 v4 v3) ∧ (¬ v4 ≤ 0 → (¬ (v5 - v5 / (100 : Int32) * (100 : Int32)) = 0 → wpX7_ofPlan_b120 mu Post K5 v0 v1 v2 v4 v3) ∧ ((v5 - v5 / (100 : Int32) * (100 : Int32)) = 0 → ∃ x19, mB mu v0 = some x19 ∧ ∃ a19, x19.2.2.2.2.2.1 = some a19 ∧ ∃ n20 f20 k20, mQ mu a19 = some (2, n20, f20) ∧ (v5 / (100 : Int32)) - (1 : Int32) = nI k20 ∧ k20 < n20 ∧ n20 ≤ 1000 ∧ ∃ a20, f20 k20 = some a20 ∧ ∃ x21, mP mu a20 = some x21 ∧ (x21.1 = 0 → wpX7_ofPlan_b120 mu Post K5 v0 v1 v2 v4 v3) ∧ (¬ x21.1 = 0 → wpX7_ofPlan_b121 mu Post K5 v0 v1 v2 v4 v3 (1 : Int32))))) := H
    refine k_iload_n C 2 (pc := 79) dX7_ofPlan_79 rfl rfl ?_
    refine k_iconst C (pc := 80) (v := (4 : Int32)) dX7_ofPlan_80 rfl ?_
    refine k_icmp_ne C (pc := 81) (tgt := 123) dX7_ofPlan_81 (by decide) (fun c_81 => ?_) (fun c_81 => ?_)
    · have H := H.1 c_81
      refine k_lv (pc := 123) [0, 1, 2, 3, 4] (lv' := [(0, .ref v0), (1, .ref v1), (2, .int v2), (3, .int v3), (4, .int v4)]) rfl ?_
      exact B123 K5 hK5 v0 v1 v2 v3 v4 H
    · have H := H.2 c_81
      refine k_iload_n C 3 (pc := 84) dX7_ofPlan_84 rfl rfl ?_
      refine k_iload C 4 (pc := 85) dX7_ofPlan_85 rfl ?_
      refine k_if_le C (pc := 87) (tgt := 120) dX7_ofPlan_87 (by decide) (fun c_87 => ?_) (fun c_87 => ?_)
      · have H := H.1 c_87
        refine k_lv (pc := 120) [0, 1, 2, 4] (lv' := [(0, .ref v0), (1, .ref v1), (2, .int v2), (4, .int v4)]) rfl ?_
        exact B120 K5 hK5 v0 v1 v2 v4 v3 H
      · have H := H.2 c_87
        refine k_iload C 5 (pc := 90) dX7_ofPlan_90 rfl ?_
        refine k_bipush C (pc := 92) (v := (100 : Int32)) dX7_ofPlan_92 (by decide) ?_
        refine k_irem C (pc := 94) dX7_ofPlan_94 (by decide) ?_
        refine k_if_ne C (pc := 95) (tgt := 120) dX7_ofPlan_95 (by decide) (fun c_95 => ?_) (fun c_95 => ?_)
        · have H := H.1 c_95
          refine k_lv (pc := 120) [0, 1, 2, 4] (lv' := [(0, .ref v0), (1, .ref v1), (2, .int v2), (4, .int v4)]) rfl ?_
          exact B120 K5 hK5 v0 v1 v2 v4 v3 H
        · have H := H.2 c_95
          refine k_aload_n C 0 (pc := 98) dX7_ofPlan_98 rfl rfl ?_
          obtain ⟨x19, hx19, H⟩ := H
          obtain ⟨a19, ha19, H⟩ := H
          refine l_getB C hR (pc := 99) hx19 5 (Nat.lt_of_lt_of_le (Nat.lt_succ_self _) (Nat.le_of_ble_eq_true rfl)) (ref := "WidowWatchLaw$Book") tW_2_72 rfl (v := .ref a19) (by show some (va_rf x19.2.2.2.2.2.1) = _; rw [ha19]; rfl) dX7_ofPlan_99 ?_
          refine k_iload C 5 (pc := 102) dX7_ofPlan_102 rfl ?_
          refine k_bipush C (pc := 104) (v := (100 : Int32)) dX7_ofPlan_104 (by decide) ?_
          refine l_idiv C (pc := 106) dX7_ofPlan_106 (by decide) ?_
          refine k_iconst C (pc := 107) (v := (1 : Int32)) dX7_ofPlan_107 rfl ?_
          refine k_isub C (pc := 108) dX7_ofPlan_108 ?_
          obtain ⟨n20, f20, k20, hx_, hk_, hl_, hn_, H⟩ := H
          refine k_eq (pc := 109) (st' := [.int (nI k20), .ref a19, .int v3]) rfl rfl (by rw [hk_]) ?_
          obtain ⟨a20, ha20, H⟩ := H
          refine l_aald C hR (pc := 109) (Or.inl rfl) hx_ hl_ hn_ dX7_ofPlan_109 ?_
          refine k_eq (pc := 110) (st' := [.ref a20, .int v3]) rfl rfl (by rw [ha20]; rfl) ?_
          obtain ⟨x21, hx21, H⟩ := H
          refine l_getP C hR (pc := 110) hx21 0 (Nat.lt_of_lt_of_le (Nat.lt_succ_self _) (Nat.le_of_ble_eq_true rfl)) (ref := "WidowWatchLaw$Para") tW_2_123 rfl (v := .int x21.1) rfl dX7_ofPlan_110 ?_
          refine k_if_eq C (pc := 113) (tgt := 120) dX7_ofPlan_113 (by decide) (fun c_113 => ?_) (fun c_113 => ?_)
          · have H := H.1 c_113
            refine k_lv (pc := 120) [0, 1, 2, 4] (lv' := [(0, .ref v0), (1, .ref v1), (2, .int v2), (4, .int v4)]) rfl ?_
            exact B120 K5 hK5 v0 v1 v2 v4 v3 H
          · have H := H.2 c_113
            refine k_iconst C (pc := 116) (v := (1 : Int32)) dX7_ofPlan_116 rfl ?_
            refine k_goto C (pc := 117) (tgt := 121) dX7_ofPlan_117 (by decide) ?_
            refine k_lv (pc := 121) [0, 1, 2, 4] (lv' := [(0, .ref v0), (1, .ref v1), (2, .int v2), (4, .int v4)]) rfl ?_
            exact B121 K5 hK5 v0 v1 v2 v4 v3 (1 : Int32) H
  have B77 : ∀ (K5 : Nat → Nat → Int32 → Int32 → Int32 → Prop) (hK5 : ∀ (v0 : Nat) (v1 : Nat) (v2 : Int32) (v3 : Int32) (v4 : Int32), K5 v0 v1 v2 v3 v4 → Kf p l e { frames := 3, cells := 0, slots := 0, locals := 79 } s m args below meth c D (va_A ws0 s.heap.size) 6 0 0 (MQ below (QC D ws0 s.heap.size (PI (fun r w1 => w1 = ws0 ∧ Post r))) args s 0 0 (va_A ws0 s.heap.size)) ws0 5 [(0, .ref v0), (1, .ref v1), (2, .int v2), (3, .int v3), (4, .int v4)] []) (v0 : Nat) (v1 : Nat) (v2 : Int32) (v4 : Int32) (v5 : Int32) (s0 : Int32) (s1 : Int32), wpX7_ofPlan_b77 mu Post K5 v0 v1 v2 v4 v5 s0 s1 → Kf p l e { frames := 3, cells := 0, slots := 0, locals := 79 } s m args below meth c D (va_A ws0 s.heap.size) 6 0 0 (MQ below (QC D ws0 s.heap.size (PI (fun r w1 => w1 = ws0 ∧ Post r))) args s 0 0 (va_A ws0 s.heap.size)) ws0 77 [(0, .ref v0), (1, .ref v1), (2, .int v2), (4, .int v4), (5, .int v5)] [.int s1, .int s0] := by
    intro K5 hK5 v0 v1 v2 v4 v5 s0 s1 H
    have H : wpX7_ofPlan_b79 mu Post K5 v0 v1 v2 (s0 + s1) v4 v5 := H
    refine k_iadd C (pc := 77) dX7_ofPlan_77 ?_
    refine k_istore_n C (pc := 78) dX7_ofPlan_78 rfl (Nat.lt_of_lt_of_le (Nat.lt_succ_self _) (Nat.le_of_ble_eq_true rfl)) (lv' := [(3, .int (s0 + s1)), (0, .ref v0), (1, .ref v1), (2, .int v2), (4, .int v4), (5, .int v5)]) rfl ?_
    refine k_lv (pc := 79) [1, 2, 3, 0, 4, 5] (lv' := [(0, .ref v0), (1, .ref v1), (2, .int v2), (3, .int (s0 + s1)), (4, .int v4), (5, .int v5)]) rfl ?_
    exact B79 K5 hK5 v0 v1 v2 (s0 + s1) v4 v5 H
  have B76 : ∀ (K5 : Nat → Nat → Int32 → Int32 → Int32 → Prop) (hK5 : ∀ (v0 : Nat) (v1 : Nat) (v2 : Int32) (v3 : Int32) (v4 : Int32), K5 v0 v1 v2 v3 v4 → Kf p l e { frames := 3, cells := 0, slots := 0, locals := 79 } s m args below meth c D (va_A ws0 s.heap.size) 6 0 0 (MQ below (QC D ws0 s.heap.size (PI (fun r w1 => w1 = ws0 ∧ Post r))) args s 0 0 (va_A ws0 s.heap.size)) ws0 5 [(0, .ref v0), (1, .ref v1), (2, .int v2), (3, .int v3), (4, .int v4)] []) (v0 : Nat) (v1 : Nat) (v2 : Int32) (v4 : Int32) (v5 : Int32) (s0 : Int32), wpX7_ofPlan_b76 mu Post K5 v0 v1 v2 v4 v5 s0 → Kf p l e { frames := 3, cells := 0, slots := 0, locals := 79 } s m args below meth c D (va_A ws0 s.heap.size) 6 0 0 (MQ below (QC D ws0 s.heap.size (PI (fun r w1 => w1 = ws0 ∧ Post r))) args s 0 0 (va_A ws0 s.heap.size)) ws0 76 [(0, .ref v0), (1, .ref v1), (2, .int v2), (4, .int v4), (5, .int v5)] [.int s0] := by
    intro K5 hK5 v0 v1 v2 v4 v5 s0 H
    have H : wpX7_ofPlan_b77 mu Post K5 v0 v1 v2 v4 v5 s0 (0 : Int32) := H
    refine k_iconst C (pc := 76) (v := (0 : Int32)) dX7_ofPlan_76 rfl ?_
    refine k_lv (pc := 77) [0, 1, 2, 3, 4] (lv' := [(0, .ref v0), (1, .ref v1), (2, .int v2), (4, .int v4), (5, .int v5)]) rfl ?_
    exact B77 K5 hK5 v0 v1 v2 v4 v5 s0 (0 : Int32) H
  have B52 : ∀ (K5 : Nat → Nat → Int32 → Int32 → Int32 → Prop) (hK5 : ∀ (v0 : Nat) (v1 : Nat) (v2 : Int32) (v3 : Int32) (v4 : Int32), K5 v0 v1 v2 v3 v4 → Kf p l e { frames := 3, cells := 0, slots := 0, locals := 79 } s m args below meth c D (va_A ws0 s.heap.size) 6 0 0 (MQ below (QC D ws0 s.heap.size (PI (fun r w1 => w1 = ws0 ∧ Post r))) args s 0 0 (va_A ws0 s.heap.size)) ws0 5 [(0, .ref v0), (1, .ref v1), (2, .int v2), (3, .int v3), (4, .int v4)] []) (v0 : Nat) (v1 : Nat) (v2 : Int32) (v3 : Int32) (v4 : Int32) (v5 : Int32), wpX7_ofPlan_b52 mu Post K5 v0 v1 v2 v3 v4 v5 → Kf p l e { frames := 3, cells := 0, slots := 0, locals := 79 } s m args below meth c D (va_A ws0 s.heap.size) 6 0 0 (MQ below (QC D ws0 s.heap.size (PI (fun r w1 => w1 = ws0 ∧ Post r))) args s 0 0 (va_A ws0 s.heap.size)) ws0 52 [(0, .ref v0), (1, .ref v1), (2, .int v2), (3, .int v3), (4, .int v4), (5, .int v5)] [] := by
    intro K5 hK5 v0 v1 v2 v3 v4 v5 H
    have H : (¬ v2 = (3 : Int32) → wpX7_ofPlan_b79 mu Post K5 v0 v1 v2 v3 v4 v5) ∧ (v2 = (3 : Int32) → (v4 ≤ 0 → wpX7_ofPlan_b76 mu Post K5 v0 v1 v2 v4 v5 v3) ∧ (¬ v4 ≤ 0 → (¬ (v5 - v5 / (100 : Int32) * (100 : Int32)) = (1 : Int32) → wpX7_ofPlan_b76 mu Post K5 v0 v1 v2 v4 v5 v3) ∧ ((v5 - v5 / (100 : Int32) * (100 : Int32)) = (1 : Int32) → wpX7_ofPlan_b77 mu Post K5 v0 v1 v2 v4 v5 v3 (1 : Int32)))) := H
    refine k_iload_n C 2 (pc := 52) dX7_ofPlan_52 rfl rfl ?_
    refine k_iconst C (pc := 53) (v := (3 : Int32)) dX7_ofPlan_53 rfl ?_
    refine k_icmp_ne C (pc := 54) (tgt := 79) dX7_ofPlan_54 (by decide) (fun c_54 => ?_) (fun c_54 => ?_)
    · have H := H.1 c_54
      refine k_lv (pc := 79) [0, 1, 2, 3, 4, 5] (lv' := [(0, .ref v0), (1, .ref v1), (2, .int v2), (3, .int v3), (4, .int v4), (5, .int v5)]) rfl ?_
      exact B79 K5 hK5 v0 v1 v2 v3 v4 v5 H
    · have H := H.2 c_54
      refine k_iload_n C 3 (pc := 57) dX7_ofPlan_57 rfl rfl ?_
      refine k_iload C 4 (pc := 58) dX7_ofPlan_58 rfl ?_
      refine k_if_le C (pc := 60) (tgt := 76) dX7_ofPlan_60 (by decide) (fun c_60 => ?_) (fun c_60 => ?_)
      · have H := H.1 c_60
        refine k_lv (pc := 76) [0, 1, 2, 4, 5] (lv' := [(0, .ref v0), (1, .ref v1), (2, .int v2), (4, .int v4), (5, .int v5)]) rfl ?_
        exact B76 K5 hK5 v0 v1 v2 v4 v5 v3 H
      · have H := H.2 c_60
        refine k_iload C 5 (pc := 63) dX7_ofPlan_63 rfl ?_
        refine k_bipush C (pc := 65) (v := (100 : Int32)) dX7_ofPlan_65 (by decide) ?_
        refine k_irem C (pc := 67) dX7_ofPlan_67 (by decide) ?_
        refine k_iconst C (pc := 68) (v := (1 : Int32)) dX7_ofPlan_68 rfl ?_
        refine k_icmp_ne C (pc := 69) (tgt := 76) dX7_ofPlan_69 (by decide) (fun c_69 => ?_) (fun c_69 => ?_)
        · have H := H.1 c_69
          refine k_lv (pc := 76) [0, 1, 2, 4, 5] (lv' := [(0, .ref v0), (1, .ref v1), (2, .int v2), (4, .int v4), (5, .int v5)]) rfl ?_
          exact B76 K5 hK5 v0 v1 v2 v4 v5 v3 H
        · have H := H.2 c_69
          refine k_iconst C (pc := 72) (v := (1 : Int32)) dX7_ofPlan_72 rfl ?_
          refine k_goto C (pc := 73) (tgt := 77) dX7_ofPlan_73 (by decide) ?_
          refine k_lv (pc := 77) [0, 1, 2, 4, 5] (lv' := [(0, .ref v0), (1, .ref v1), (2, .int v2), (4, .int v4), (5, .int v5)]) rfl ?_
          exact B77 K5 hK5 v0 v1 v2 v4 v5 v3 (1 : Int32) H
  have B50 : ∀ (K5 : Nat → Nat → Int32 → Int32 → Int32 → Prop) (hK5 : ∀ (v0 : Nat) (v1 : Nat) (v2 : Int32) (v3 : Int32) (v4 : Int32), K5 v0 v1 v2 v3 v4 → Kf p l e { frames := 3, cells := 0, slots := 0, locals := 79 } s m args below meth c D (va_A ws0 s.heap.size) 6 0 0 (MQ below (QC D ws0 s.heap.size (PI (fun r w1 => w1 = ws0 ∧ Post r))) args s 0 0 (va_A ws0 s.heap.size)) ws0 5 [(0, .ref v0), (1, .ref v1), (2, .int v2), (3, .int v3), (4, .int v4)] []) (v0 : Nat) (v1 : Nat) (v2 : Int32) (v4 : Int32) (v5 : Int32) (s0 : Int32) (s1 : Int32), wpX7_ofPlan_b50 mu Post K5 v0 v1 v2 v4 v5 s0 s1 → Kf p l e { frames := 3, cells := 0, slots := 0, locals := 79 } s m args below meth c D (va_A ws0 s.heap.size) 6 0 0 (MQ below (QC D ws0 s.heap.size (PI (fun r w1 => w1 = ws0 ∧ Post r))) args s 0 0 (va_A ws0 s.heap.size)) ws0 50 [(0, .ref v0), (1, .ref v1), (2, .int v2), (4, .int v4), (5, .int v5)] [.int s1, .int s0] := by
    intro K5 hK5 v0 v1 v2 v4 v5 s0 s1 H
    have H : wpX7_ofPlan_b52 mu Post K5 v0 v1 v2 (s0 + s1) v4 v5 := H
    refine k_iadd C (pc := 50) dX7_ofPlan_50 ?_
    refine k_istore_n C (pc := 51) dX7_ofPlan_51 rfl (Nat.lt_of_lt_of_le (Nat.lt_succ_self _) (Nat.le_of_ble_eq_true rfl)) (lv' := [(3, .int (s0 + s1)), (0, .ref v0), (1, .ref v1), (2, .int v2), (4, .int v4), (5, .int v5)]) rfl ?_
    refine k_lv (pc := 52) [1, 2, 3, 0, 4, 5] (lv' := [(0, .ref v0), (1, .ref v1), (2, .int v2), (3, .int (s0 + s1)), (4, .int v4), (5, .int v5)]) rfl ?_
    exact B52 K5 hK5 v0 v1 v2 (s0 + s1) v4 v5 H
  have B5 : ∀  (n : Nat) (v0 : Nat) (v1 : Nat) (v2 : Int32) (v3 : Int32) (v4 : Int32), wpX7_ofPlan_L5 mu Post  n v0 v1 v2 v3 v4 → Kf p l e { frames := 3, cells := 0, slots := 0, locals := 79 } s m args below meth c D (va_A ws0 s.heap.size) 6 0 0 (MQ below (QC D ws0 s.heap.size (PI (fun r w1 => w1 = ws0 ∧ Post r))) args s 0 0 (va_A ws0 s.heap.size)) ws0 5 [(0, .ref v0), (1, .ref v1), (2, .int v2), (3, .int v3), (4, .int v4)] [] := by
    intro  n
    induction n with
    | zero =>
      intro v0 v1 v2 v3 v4 H
      exact H.elim
    | succ nn5 ih5 =>
      intro v0 v1 v2 v3 v4 H
      have H : ∃ x1, mL mu v1 = some x1 ∧ ∃ a1, x1.2.2 = some a1 ∧ ∃ n2 f2, mI mu a1 = some (n2, f2) ∧ ((nI n2) ≤ v4 → (¬ v2 = 0 → (¬ v2 = (1 : Int32) → (¬ v2 = (6 : Int32) → Post v3) ∧ (v2 = (6 : Int32) → ∃ x3, mB mu v0 = some x3 ∧ wpX7_allLines mu v0 v1 (fun r4 => Post r4))) ∧ (v2 = (1 : Int32) → ∃ x5, mL mu v1 = some x5 ∧ ∃ a5, x5.2.2 = some a5 ∧ ∃ n6 f6, mI mu a5 = some (n6, f6) ∧ Post (nI n6))) ∧ (v2 = 0 → ∃ x7, mL mu v1 = some x7 ∧ Post x7.1)) ∧ (¬ (nI n2) ≤ v4 → ∃ x8, mL mu v1 = some x8 ∧ ∃ a8, x8.2.2 = some a8 ∧ ∃ n9 f9 k9, mI mu a8 = some (n9, f9) ∧ v4 = nI k9 ∧ k9 < n9 ∧ n9 ≤ 1000 ∧ ∃ x10, mB mu v0 = some x10 ∧ wpX7_place mu v0 v1 (f9 k9) (fun r11 => (¬ v2 = (2 : Int32) → wpX7_ofPlan_b52 mu Post (wpX7_ofPlan_L5 mu Post  nn5) v0 v1 v2 v3 v4 r11) ∧ (v2 = (2 : Int32) → ∃ x22, mB mu v0 = some x22 ∧ wpX7_isWidow mu v0 v1 v4 (fun r23 => (r23 = 0 → wpX7_ofPlan_b50 mu Post (wpX7_ofPlan_L5 mu Post  nn5) v0 v1 v2 v4 r11 v3 (0 : Int32)) ∧ (¬ r23 = 0 → wpX7_ofPlan_b50 mu Post (wpX7_ofPlan_L5 mu Post  nn5) v0 v1 v2 v4 r11 v3 (1 : Int32)))))) := H
      refine k_iload C 4 (pc := 5) dX7_ofPlan_5 rfl ?_
      refine k_aload_n C 1 (pc := 7) dX7_ofPlan_7 rfl rfl ?_
      obtain ⟨x1, hx1, H⟩ := H
      obtain ⟨a1, ha1, H⟩ := H
      refine l_getL C hR (pc := 8) hx1 2 (Nat.lt_of_lt_of_le (Nat.lt_succ_self _) (Nat.le_of_ble_eq_true rfl)) (ref := "WidowWatchLaw$Plan") tW_6_95 rfl (v := .ref a1) (by show some (va_rf x1.2.2) = _; rw [ha1]; rfl) dX7_ofPlan_8 ?_
      obtain ⟨n2, f2, hx_, H⟩ := H
      refine l_alen C hR (pc := 11) hx_ dX7_ofPlan_11 ?_
      refine k_icmp_ge C (pc := 12) (tgt := 171) dX7_ofPlan_12 (by decide) (fun c_12 => ?_) (fun c_12 => ?_)
      · have H := H.1 c_12
        refine k_iload_n C 2 (pc := 171) dX7_ofPlan_171 rfl rfl ?_
        refine k_if_ne C (pc := 172) (tgt := 182) dX7_ofPlan_172 (by decide) (fun c_172 => ?_) (fun c_172 => ?_)
        · have H := H.1 c_172
          refine k_iload_n C 2 (pc := 182) dX7_ofPlan_182 rfl rfl ?_
          refine k_iconst C (pc := 183) (v := (1 : Int32)) dX7_ofPlan_183 rfl ?_
          refine k_icmp_ne C (pc := 184) (tgt := 195) dX7_ofPlan_184 (by decide) (fun c_184 => ?_) (fun c_184 => ?_)
          · have H := H.1 c_184
            refine k_iload_n C 2 (pc := 195) dX7_ofPlan_195 rfl rfl ?_
            refine k_bipush C (pc := 196) (v := (6 : Int32)) dX7_ofPlan_196 (by decide) ?_
            refine k_icmp_ne C (pc := 198) (tgt := 209) dX7_ofPlan_198 (by decide) (fun c_198 => ?_) (fun c_198 => ?_)
            · have H := H.1 c_198
              refine k_iload_n C 3 (pc := 209) dX7_ofPlan_209 rfl rfl ?_
              exact k_iret C (pc := 210) hr dX7_ofPlan_210 ⟨rfl, H⟩
            · have H := H.2 c_198
              refine k_aload_n C 0 (pc := 201) dX7_ofPlan_201 rfl rfl ?_
              refine k_aload_n C 1 (pc := 202) dX7_ofPlan_202 rfl rfl ?_
              obtain ⟨x3, hx3, H⟩ := H
              obtain ⟨i3, hi3⟩ := List.getElem?_of_mem (hR.B hx3)
              refine k_callAi C (pc := 203) (l_runV C hF (As := [.ref v1]) (rest := []) (ci := 7) (q0 := i3) (conX7_allLines l D cA mu v0 v1 _  H hR) ⟨k_cwB C tW_6_145 tW_6_142 tW_1_9 okX7_allLines rfl rfl ⟨Nat.le_of_ble_eq_true rfl, Nat.le_of_ble_eq_true rfl⟩, C.w tW_6_143, C.w tW_6_144⟩ hi3 rfl rfl rfl rfl (Nat.le_of_ble_eq_true rfl) dX7_ofPlan_203 ⟨Nat.le_of_ble_eq_true rfl, Nat.le_of_ble_eq_true rfl⟩) (fun r4 w1 hw_ => ?_)
              obtain ⟨rfl, H⟩ := hw_
              refine k_goto C (pc := 206) (tgt := 210) dX7_ofPlan_206 (by decide) ?_
              exact k_iret C (pc := 210) hr dX7_ofPlan_210 ⟨rfl, H⟩
          · have H := H.2 c_184
            refine k_aload_n C 1 (pc := 187) dX7_ofPlan_187 rfl rfl ?_
            obtain ⟨x5, hx5, H⟩ := H
            obtain ⟨a5, ha5, H⟩ := H
            refine l_getL C hR (pc := 188) hx5 2 (Nat.lt_of_lt_of_le (Nat.lt_succ_self _) (Nat.le_of_ble_eq_true rfl)) (ref := "WidowWatchLaw$Plan") tW_6_95 rfl (v := .ref a5) (by show some (va_rf x5.2.2) = _; rw [ha5]; rfl) dX7_ofPlan_188 ?_
            obtain ⟨n6, f6, hx_, H⟩ := H
            refine l_alen C hR (pc := 191) hx_ dX7_ofPlan_191 ?_
            refine k_goto C (pc := 192) (tgt := 210) dX7_ofPlan_192 (by decide) ?_
            exact k_iret C (pc := 210) hr dX7_ofPlan_210 ⟨rfl, H⟩
        · have H := H.2 c_172
          refine k_aload_n C 1 (pc := 175) dX7_ofPlan_175 rfl rfl ?_
          obtain ⟨x7, hx7, H⟩ := H
          refine l_getL C hR (pc := 176) hx7 0 (Nat.lt_of_lt_of_le (Nat.lt_succ_self _) (Nat.le_of_ble_eq_true rfl)) (ref := "WidowWatchLaw$Plan") tW_6_91 rfl (v := .int x7.1) rfl dX7_ofPlan_176 ?_
          refine k_goto C (pc := 179) (tgt := 210) dX7_ofPlan_179 (by decide) ?_
          exact k_iret C (pc := 210) hr dX7_ofPlan_210 ⟨rfl, H⟩
      · have H := H.2 c_12
        refine k_aload_n C 0 (pc := 15) dX7_ofPlan_15 rfl rfl ?_
        refine k_aload_n C 1 (pc := 16) dX7_ofPlan_16 rfl rfl ?_
        refine k_aload_n C 1 (pc := 17) dX7_ofPlan_17 rfl rfl ?_
        obtain ⟨x8, hx8, H⟩ := H
        obtain ⟨a8, ha8, H⟩ := H
        refine l_getL C hR (pc := 18) hx8 2 (Nat.lt_of_lt_of_le (Nat.lt_succ_self _) (Nat.le_of_ble_eq_true rfl)) (ref := "WidowWatchLaw$Plan") tW_6_95 rfl (v := .ref a8) (by show some (va_rf x8.2.2) = _; rw [ha8]; rfl) dX7_ofPlan_18 ?_
        refine k_iload C 4 (pc := 21) dX7_ofPlan_21 rfl ?_
        obtain ⟨n9, f9, k9, hx_, hk_, hl_, hn_, H⟩ := H
        refine k_eq (pc := 23) (st' := [.int (nI k9), .ref a8, .ref v1, .ref v0]) rfl rfl (by rw [hk_]) ?_
        refine l_iald C hR (pc := 23) hx_ hl_ hn_ dX7_ofPlan_23 ?_
        obtain ⟨x10, hx10, H⟩ := H
        obtain ⟨i10, hi10⟩ := List.getElem?_of_mem (hR.B hx10)
        refine k_callAi C (pc := 24) (l_runV C hF (As := [.ref v1, .int (f9 k9)]) (rest := []) (ci := 7) (q0 := i10) (conX7_place l D cA mu v0 v1 (f9 k9) _  H hR) ⟨k_cwB C tW_6_137 tW_6_134 tW_1_9 okX7_place rfl rfl ⟨Nat.le_of_ble_eq_true rfl, Nat.le_of_ble_eq_true rfl⟩, C.w tW_6_135, C.w tW_6_136⟩ hi10 rfl rfl rfl rfl (Nat.le_of_ble_eq_true rfl) dX7_ofPlan_24 ⟨Nat.le_of_ble_eq_true rfl, Nat.le_of_ble_eq_true rfl⟩) (fun r11 w1 hw_ => ?_)
        obtain ⟨rfl, H⟩ := hw_
        refine k_istore C (pc := 27) dX7_ofPlan_27 (Nat.lt_of_lt_of_le (Nat.lt_succ_self _) (Nat.le_of_ble_eq_true rfl)) (lv' := [(5, .int r11), (0, .ref v0), (1, .ref v1), (2, .int v2), (3, .int v3), (4, .int v4)]) rfl ?_
        refine k_iload_n C 3 (pc := 29) dX7_ofPlan_29 rfl rfl ?_
        refine k_iconst C (pc := 30) (v := (2 : Int32)) dX7_ofPlan_30 rfl ?_
        refine k_icmp_ne C (pc := 31) (tgt := 52) dX7_ofPlan_31 (by decide) (fun c_31 => ?_) (fun c_31 => ?_)
        · have H := H.1 c_31
          refine k_lv (pc := 52) [1, 2, 3, 4, 5, 0] (lv' := [(0, .ref v0), (1, .ref v1), (2, .int v2), (3, .int v3), (4, .int v4), (5, .int r11)]) rfl ?_
          exact B52 (wpX7_ofPlan_L5 mu Post  nn5) ih5 v0 v1 v2 v3 v4 r11 H
        · have H := H.2 c_31
          refine k_iload_n C 4 (pc := 34) dX7_ofPlan_34 rfl rfl ?_
          refine k_aload_n C 1 (pc := 35) dX7_ofPlan_35 rfl rfl ?_
          refine k_aload_n C 2 (pc := 36) dX7_ofPlan_36 rfl rfl ?_
          refine k_iload C 5 (pc := 37) dX7_ofPlan_37 rfl ?_
          obtain ⟨x22, hx22, H⟩ := H
          obtain ⟨i22, hi22⟩ := List.getElem?_of_mem (hR.B hx22)
          refine k_callAi C (pc := 39) (l_runV C hF (As := [.ref v1, .int v4]) (rest := [.int v3]) (ci := 7) (q0 := i22) (conX7_isWidow l D cA mu v0 v1 v4 _  H hR) ⟨k_cwB C tW_6_141 tW_6_138 tW_1_9 okX7_isWidow rfl rfl ⟨Nat.le_of_ble_eq_true rfl, Nat.le_of_ble_eq_true rfl⟩, C.w tW_6_139, C.w tW_6_140⟩ hi22 rfl rfl rfl rfl (Nat.le_of_ble_eq_true rfl) dX7_ofPlan_39 ⟨Nat.le_of_ble_eq_true rfl, Nat.le_of_ble_eq_true rfl⟩) (fun r23 w1 hw_ => ?_)
          obtain ⟨rfl, H⟩ := hw_
          refine k_if_eq C (pc := 42) (tgt := 49) dX7_ofPlan_42 (by decide) (fun c_42 => ?_) (fun c_42 => ?_)
          · have H := H.1 c_42
            refine k_iconst C (pc := 49) (v := (0 : Int32)) dX7_ofPlan_49 rfl ?_
            refine k_lv (pc := 50) [1, 2, 3, 5, 0] (lv' := [(0, .ref v0), (1, .ref v1), (2, .int v2), (4, .int v4), (5, .int r11)]) rfl ?_
            exact B50 (wpX7_ofPlan_L5 mu Post  nn5) ih5 v0 v1 v2 v4 r11 v3 (0 : Int32) H
          · have H := H.2 c_42
            refine k_iconst C (pc := 45) (v := (1 : Int32)) dX7_ofPlan_45 rfl ?_
            refine k_goto C (pc := 46) (tgt := 50) dX7_ofPlan_46 (by decide) ?_
            refine k_lv (pc := 50) [1, 2, 3, 5, 0] (lv' := [(0, .ref v0), (1, .ref v1), (2, .int v2), (4, .int v4), (5, .int r11)]) rfl ?_
            exact B50 (wpX7_ofPlan_L5 mu Post  nn5) ih5 v0 v1 v2 v4 r11 v3 (1 : Int32) H
  refine k_eq (ws' := ws0) (lv' := [(0, .ref v0), (1, .ref v1), (2, .int v2)]) (st' := []) rfl rfl rfl ?_
  have H : ∃ m_, wpX7_ofPlan_L5 mu Post  m_ v0 v1 v2 (0 : Int32) (0 : Int32) := H
  refine k_iconst C (pc := 0) (v := (0 : Int32)) dX7_ofPlan_0 rfl ?_
  refine k_istore_n C (pc := 1) dX7_ofPlan_1 rfl (Nat.lt_of_lt_of_le (Nat.lt_succ_self _) (Nat.le_of_ble_eq_true rfl)) (lv' := [(3, .int (0 : Int32)), (0, .ref v0), (1, .ref v1), (2, .int v2)]) rfl ?_
  refine k_iconst C (pc := 2) (v := (0 : Int32)) dX7_ofPlan_2 rfl ?_
  refine k_istore C (pc := 3) dX7_ofPlan_3 (Nat.lt_of_lt_of_le (Nat.lt_succ_self _) (Nat.le_of_ble_eq_true rfl)) (lv' := [(4, .int (0 : Int32)), (3, .int (0 : Int32)), (0, .ref v0), (1, .ref v1), (2, .int v2)]) rfl ?_
  obtain ⟨n_, H⟩ := H
  refine k_lv (pc := 5) [2, 3, 4, 1, 0] (lv' := [(0, .ref v0), (1, .ref v1), (2, .int v2), (3, .int (0 : Int32)), (4, .int (0 : Int32))]) rfl ?_
  exact B5  n_ v0 v1 v2 (0 : Int32) (0 : Int32) H
/-! WidowWatchLaw$Book.told(I)I -/
theorem dX7_told_0 : decode cX7_told 0 = .ok (.iconst 0, 1) := by decide +kernel
theorem dX7_told_1 : decode cX7_told 1 = .ok (.istore_n 2, 1) := by decide +kernel
theorem dX7_told_2 : decode cX7_told 2 = .ok (.iconst 0, 1) := by decide +kernel
theorem dX7_told_3 : decode cX7_told 3 = .ok (.istore_n 3, 1) := by decide +kernel
theorem dX7_told_4 : decode cX7_told 4 = .ok (.aload_n 0, 1) := by decide +kernel
theorem dX7_told_5 : decode cX7_told 5 = .ok (.getfield 28, 3) := by decide +kernel
theorem dX7_told_8 : decode cX7_told 8 = .ok (.astore 4, 2) := by decide +kernel
theorem dX7_told_10 : decode cX7_told 10 = .ok (.aload 4, 2) := by decide +kernel
theorem dX7_told_12 : decode cX7_told 12 = .ok (.arraylength, 1) := by decide +kernel
theorem dX7_told_13 : decode cX7_told 13 = .ok (.istore 5, 2) := by decide +kernel
theorem dX7_told_15 : decode cX7_told 15 = .ok (.iconst 0, 1) := by decide +kernel
theorem dX7_told_16 : decode cX7_told 16 = .ok (.istore 6, 2) := by decide +kernel
theorem dX7_told_18 : decode cX7_told 18 = .ok (.iload 6, 2) := by decide +kernel
theorem dX7_told_20 : decode cX7_told 20 = .ok (.iload 5, 2) := by decide +kernel
theorem dX7_told_22 : decode cX7_told 22 = .ok (.if_icmp .ge 41, 3) := by decide +kernel
theorem dX7_told_25 : decode cX7_told 25 = .ok (.aload 4, 2) := by decide +kernel
theorem dX7_told_27 : decode cX7_told 27 = .ok (.iload 6, 2) := by decide +kernel
theorem dX7_told_29 : decode cX7_told 29 = .ok (.aaload, 1) := by decide +kernel
theorem dX7_told_30 : decode cX7_told 30 = .ok (.astore 7, 2) := by decide +kernel
theorem dX7_told_32 : decode cX7_told 32 = .ok (.iload_n 2, 1) := by decide +kernel
theorem dX7_told_33 : decode cX7_told 33 = .ok (.aload 7, 2) := by decide +kernel
theorem dX7_told_35 : decode cX7_told 35 = .ok (.getfield 45, 3) := by decide +kernel
theorem dX7_told_38 : decode cX7_told 38 = .ok (.arraylength, 1) := by decide +kernel
theorem dX7_told_39 : decode cX7_told 39 = .ok (.iadd, 1) := by decide +kernel
theorem dX7_told_40 : decode cX7_told 40 = .ok (.istore_n 2, 1) := by decide +kernel
theorem dX7_told_41 : decode cX7_told 41 = .ok (.iload_n 3, 1) := by decide +kernel
theorem dX7_told_42 : decode cX7_told 42 = .ok (.aload 7, 2) := by decide +kernel
theorem dX7_told_44 : decode cX7_told 44 = .ok (.getfield 75, 3) := by decide +kernel
theorem dX7_told_47 : decode cX7_told 47 = .ok (.ifCond .ge 7, 3) := by decide +kernel
theorem dX7_told_50 : decode cX7_told 50 = .ok (.iconst 0, 1) := by decide +kernel
theorem dX7_told_51 : decode cX7_told 51 = .ok (.goto 4, 3) := by decide +kernel
theorem dX7_told_54 : decode cX7_told 54 = .ok (.iconst 1, 1) := by decide +kernel
theorem dX7_told_55 : decode cX7_told 55 = .ok (.iadd, 1) := by decide +kernel
theorem dX7_told_56 : decode cX7_told 56 = .ok (.istore_n 3, 1) := by decide +kernel
theorem dX7_told_57 : decode cX7_told 57 = .ok (.iinc 6 1, 3) := by decide +kernel
theorem dX7_told_60 : decode cX7_told 60 = .ok (.goto (-42), 3) := by decide +kernel
theorem dX7_told_63 : decode cX7_told 63 = .ok (.iload_n 1, 1) := by decide +kernel
theorem dX7_told_64 : decode cX7_told 64 = .ok (.ifCond .ne 10, 3) := by decide +kernel
theorem dX7_told_67 : decode cX7_told 67 = .ok (.aload_n 0, 1) := by decide +kernel
theorem dX7_told_68 : decode cX7_told 68 = .ok (.getfield 7, 3) := by decide +kernel
theorem dX7_told_71 : decode cX7_told 71 = .ok (.goto 80, 3) := by decide +kernel
theorem dX7_told_74 : decode cX7_told 74 = .ok (.iload_n 1, 1) := by decide +kernel
theorem dX7_told_75 : decode cX7_told 75 = .ok (.iconst 1, 1) := by decide +kernel
theorem dX7_told_76 : decode cX7_told 76 = .ok (.if_icmp .ne 10, 3) := by decide +kernel
theorem dX7_told_79 : decode cX7_told 79 = .ok (.aload_n 0, 1) := by decide +kernel
theorem dX7_told_80 : decode cX7_told 80 = .ok (.getfield 13, 3) := by decide +kernel
theorem dX7_told_83 : decode cX7_told 83 = .ok (.goto 68, 3) := by decide +kernel
theorem dX7_told_86 : decode cX7_told 86 = .ok (.iload_n 1, 1) := by decide +kernel
theorem dX7_told_87 : decode cX7_told 87 = .ok (.iconst 2, 1) := by decide +kernel
theorem dX7_told_88 : decode cX7_told 88 = .ok (.if_icmp .ne 10, 3) := by decide +kernel
theorem dX7_told_91 : decode cX7_told 91 = .ok (.aload_n 0, 1) := by decide +kernel
theorem dX7_told_92 : decode cX7_told 92 = .ok (.getfield 16, 3) := by decide +kernel
theorem dX7_told_95 : decode cX7_told 95 = .ok (.goto 56, 3) := by decide +kernel
theorem dX7_told_98 : decode cX7_told 98 = .ok (.iload_n 1, 1) := by decide +kernel
theorem dX7_told_99 : decode cX7_told 99 = .ok (.iconst 3, 1) := by decide +kernel
theorem dX7_told_100 : decode cX7_told 100 = .ok (.if_icmp .ne 10, 3) := by decide +kernel
theorem dX7_told_103 : decode cX7_told 103 = .ok (.aload_n 0, 1) := by decide +kernel
theorem dX7_told_104 : decode cX7_told 104 = .ok (.getfield 19, 3) := by decide +kernel
theorem dX7_told_107 : decode cX7_told 107 = .ok (.goto 44, 3) := by decide +kernel
theorem dX7_told_110 : decode cX7_told 110 = .ok (.iload_n 1, 1) := by decide +kernel
theorem dX7_told_111 : decode cX7_told 111 = .ok (.iconst 4, 1) := by decide +kernel
theorem dX7_told_112 : decode cX7_told 112 = .ok (.if_icmp .ne 11, 3) := by decide +kernel
theorem dX7_told_115 : decode cX7_told 115 = .ok (.aload_n 0, 1) := by decide +kernel
theorem dX7_told_116 : decode cX7_told 116 = .ok (.getfield 28, 3) := by decide +kernel
theorem dX7_told_119 : decode cX7_told 119 = .ok (.arraylength, 1) := by decide +kernel
theorem dX7_told_120 : decode cX7_told 120 = .ok (.goto 31, 3) := by decide +kernel
theorem dX7_told_123 : decode cX7_told 123 = .ok (.iload_n 1, 1) := by decide +kernel
theorem dX7_told_124 : decode cX7_told 124 = .ok (.iconst 5, 1) := by decide +kernel
theorem dX7_told_125 : decode cX7_told 125 = .ok (.if_icmp .ne 7, 3) := by decide +kernel
theorem dX7_told_128 : decode cX7_told 128 = .ok (.iload_n 2, 1) := by decide +kernel
theorem dX7_told_129 : decode cX7_told 129 = .ok (.goto 22, 3) := by decide +kernel
theorem dX7_told_132 : decode cX7_told 132 = .ok (.iload_n 1, 1) := by decide +kernel
theorem dX7_told_133 : decode cX7_told 133 = .ok (.bipush 6, 2) := by decide +kernel
theorem dX7_told_135 : decode cX7_told 135 = .ok (.if_icmp .ne 7, 3) := by decide +kernel
theorem dX7_told_138 : decode cX7_told 138 = .ok (.iload_n 3, 1) := by decide +kernel
theorem dX7_told_139 : decode cX7_told 139 = .ok (.goto 12, 3) := by decide +kernel
theorem dX7_told_142 : decode cX7_told 142 = .ok (.aload_n 0, 1) := by decide +kernel
theorem dX7_told_143 : decode cX7_told 143 = .ok (.getfield 22, 3) := by decide +kernel
theorem dX7_told_146 : decode cX7_told 146 = .ok (.iload_n 1, 1) := by decide +kernel
theorem dX7_told_147 : decode cX7_told 147 = .ok (.bipush 7, 2) := by decide +kernel
theorem dX7_told_149 : decode cX7_told 149 = .ok (.isub, 1) := by decide +kernel
theorem dX7_told_150 : decode cX7_told 150 = .ok (.iaload, 1) := by decide +kernel
theorem dX7_told_151 : decode cX7_told 151 = .ok (.ireturn, 1) := by decide +kernel
theorem okX7_told : okY yX7_told 1 := ⟨by decide +kernel, by decide +kernel, by decide +kernel⟩
def wpX7_told_b55 (mu : Mu) (Post : Int32 → Prop) (K18 : Nat → Int32 → Int32 → Int32 → Nat → Int32 → Int32 → Prop) (v0 : Nat) (v1 : Int32) (v2 : Int32) (v4 : Nat) (v5 : Int32) (v6 : Int32) (s0 : Int32) (s1 : Int32) : Prop := K18 v0 v1 v2 (s0 + s1) v4 v5 (v6 + (1 : Int32))
def wpX7_told_L18 (mu : Mu) (Post : Int32 → Prop)  : Nat → Nat → Int32 → Int32 → Int32 → Nat → Int32 → Int32 → Prop
  | 0 => fun _ _ _ _ _ _ _ => False
  | nn18 + 1 => fun v0 v1 v2 v3 v4 v5 v6 => (v5 ≤ v6 → (¬ v1 = 0 → (¬ v1 = (1 : Int32) → (¬ v1 = (2 : Int32) → (¬ v1 = (3 : Int32) → (¬ v1 = (4 : Int32) → (¬ v1 = (5 : Int32) → (¬ v1 = (6 : Int32) → ∃ x3, mB mu v0 = some x3 ∧ ∃ a3, x3.2.2.2.2.1 = some a3 ∧ ∃ n4 f4 k4, mI mu a3 = some (n4, f4) ∧ v1 - (7 : Int32) = nI k4 ∧ k4 < n4 ∧ n4 ≤ 1000 ∧ Post (f4 k4)) ∧ (v1 = (6 : Int32) → Post v3)) ∧ (v1 = (5 : Int32) → Post v2)) ∧ (v1 = (4 : Int32) → ∃ x5, mB mu v0 = some x5 ∧ ∃ a5, x5.2.2.2.2.2.1 = some a5 ∧ ∃ n6 f6, mQ mu a5 = some (2, n6, f6) ∧ Post (nI n6))) ∧ (v1 = (3 : Int32) → ∃ x7, mB mu v0 = some x7 ∧ Post x7.2.2.2.1)) ∧ (v1 = (2 : Int32) → ∃ x8, mB mu v0 = some x8 ∧ Post x8.2.2.1)) ∧ (v1 = (1 : Int32) → ∃ x9, mB mu v0 = some x9 ∧ Post x9.2.1)) ∧ (v1 = 0 → ∃ x10, mB mu v0 = some x10 ∧ Post x10.1)) ∧ (¬ v5 ≤ v6 → ∃ n11 f11 k11, mQ mu v4 = some (2, n11, f11) ∧ v6 = nI k11 ∧ k11 < n11 ∧ n11 ≤ 1000 ∧ ∃ a11, f11 k11 = some a11 ∧ ∃ x12, mP mu a11 = some x12 ∧ ∃ a12, x12.2.2.2 = some a12 ∧ ∃ n13 f13, mI mu a12 = some (n13, f13) ∧ ∃ x14, mP mu a11 = some x14 ∧ (0 ≤ x14.2.2.1 → wpX7_told_b55 mu Post (wpX7_told_L18 mu Post  nn18) v0 v1 (v2 + (nI n13)) v4 v5 v6 v3 (1 : Int32)) ∧ (¬ 0 ≤ x14.2.2.1 → wpX7_told_b55 mu Post (wpX7_told_L18 mu Post  nn18) v0 v1 (v2 + (nI n13)) v4 v5 v6 v3 (0 : Int32)))
def wpX7_told (mu : Mu) (v0 : Nat) (v1 : Int32) (Post : Int32 → Prop) : Prop := ∃ x1, mB mu v0 = some x1 ∧ ∃ a1, x1.2.2.2.2.2.1 = some a1 ∧ ∃ n2 f2, mQ mu a1 = some (2, n2, f2) ∧ ∃ m_, wpX7_told_L18 mu Post  m_ v0 v1 (0 : Int32) (0 : Int32) a1 (nI n2) (0 : Int32)
set_option maxHeartbeats 4000000 in
set_option maxRecDepth 100000 in
theorem conX7_told (l : Launch) (D : va_G) (cA : Nat → ClassId) (mu : Mu) (v0 : Nat) (v1 : Int32) (Post : Int32 → Prop)  (H : wpX7_told mu v0 v1 Post) {w0 ws0 : va_W} (hR : LR cA w0 ws0 mu) : ConN l D cA yX7_told (wm yX7_told cX7_told 8 (some .int)) { frames := 0, cells := 0, slots := 0, locals := 0 } ws0 [.ref v0, .int v1] 0 0 (PI (fun r w1 => w1 = ws0 ∧ Post r)) := by
  refine ConN.of (by decide) (Nat.le_of_ble_eq_true rfl) ?_
  intro p e s m args below meth c C hF hr hini
  have B55 : ∀ (K18 : Nat → Int32 → Int32 → Int32 → Nat → Int32 → Int32 → Prop) (hK18 : ∀ (v0 : Nat) (v1 : Int32) (v2 : Int32) (v3 : Int32) (v4 : Nat) (v5 : Int32) (v6 : Int32), K18 v0 v1 v2 v3 v4 v5 v6 → Kf p l e { frames := 0, cells := 0, slots := 0, locals := 0 } s m args below meth c D (va_A ws0 s.heap.size) 8 0 0 (MQ below (QC D ws0 s.heap.size (PI (fun r w1 => w1 = ws0 ∧ Post r))) args s 0 0 (va_A ws0 s.heap.size)) ws0 18 [(0, .ref v0), (1, .int v1), (2, .int v2), (3, .int v3), (4, .ref v4), (5, .int v5), (6, .int v6)] []) (v0 : Nat) (v1 : Int32) (v2 : Int32) (v4 : Nat) (v5 : Int32) (v6 : Int32) (s0 : Int32) (s1 : Int32), wpX7_told_b55 mu Post K18 v0 v1 v2 v4 v5 v6 s0 s1 → Kf p l e { frames := 0, cells := 0, slots := 0, locals := 0 } s m args below meth c D (va_A ws0 s.heap.size) 8 0 0 (MQ below (QC D ws0 s.heap.size (PI (fun r w1 => w1 = ws0 ∧ Post r))) args s 0 0 (va_A ws0 s.heap.size)) ws0 55 [(0, .ref v0), (1, .int v1), (2, .int v2), (4, .ref v4), (5, .int v5), (6, .int v6)] [.int s1, .int s0] := by
    intro K18 hK18 v0 v1 v2 v4 v5 v6 s0 s1 H
    have H : K18 v0 v1 v2 (s0 + s1) v4 v5 (v6 + (1 : Int32)) := H
    refine k_iadd C (pc := 55) dX7_told_55 ?_
    refine k_istore_n C (pc := 56) dX7_told_56 rfl (Nat.lt_of_lt_of_le (Nat.lt_succ_self _) (Nat.le_of_ble_eq_true rfl)) (lv' := [(3, .int (s0 + s1)), (0, .ref v0), (1, .int v1), (2, .int v2), (4, .ref v4), (5, .int v5), (6, .int v6)]) rfl ?_
    refine k_iinc C (pc := 57) (k := 6) (v := v6 + (1 : Int32)) dX7_told_57 rfl rfl (Nat.lt_of_lt_of_le (Nat.lt_succ_self _) (Nat.le_of_ble_eq_true rfl)) (lv' := [(6, .int (v6 + (1 : Int32))), (3, .int (s0 + s1)), (0, .ref v0), (1, .int v1), (2, .int v2), (4, .ref v4), (5, .int v5)]) rfl ?_
    refine k_goto C (pc := 60) (tgt := 18) dX7_told_60 (by decide) ?_
    refine k_lv (pc := 18) [2, 3, 4, 1, 5, 6, 0] (lv' := [(0, .ref v0), (1, .int v1), (2, .int v2), (3, .int (s0 + s1)), (4, .ref v4), (5, .int v5), (6, .int (v6 + (1 : Int32)))]) rfl ?_
    exact hK18 v0 v1 v2 (s0 + s1) v4 v5 (v6 + (1 : Int32)) H
  have B18 : ∀  (n : Nat) (v0 : Nat) (v1 : Int32) (v2 : Int32) (v3 : Int32) (v4 : Nat) (v5 : Int32) (v6 : Int32), wpX7_told_L18 mu Post  n v0 v1 v2 v3 v4 v5 v6 → Kf p l e { frames := 0, cells := 0, slots := 0, locals := 0 } s m args below meth c D (va_A ws0 s.heap.size) 8 0 0 (MQ below (QC D ws0 s.heap.size (PI (fun r w1 => w1 = ws0 ∧ Post r))) args s 0 0 (va_A ws0 s.heap.size)) ws0 18 [(0, .ref v0), (1, .int v1), (2, .int v2), (3, .int v3), (4, .ref v4), (5, .int v5), (6, .int v6)] [] := by
    intro  n
    induction n with
    | zero =>
      intro v0 v1 v2 v3 v4 v5 v6 H
      exact H.elim
    | succ nn18 ih18 =>
      intro v0 v1 v2 v3 v4 v5 v6 H
      have H : (v5 ≤ v6 → (¬ v1 = 0 → (¬ v1 = (1 : Int32) → (¬ v1 = (2 : Int32) → (¬ v1 = (3 : Int32) → (¬ v1 = (4 : Int32) → (¬ v1 = (5 : Int32) → (¬ v1 = (6 : Int32) → ∃ x3, mB mu v0 = some x3 ∧ ∃ a3, x3.2.2.2.2.1 = some a3 ∧ ∃ n4 f4 k4, mI mu a3 = some (n4, f4) ∧ v1 - (7 : Int32) = nI k4 ∧ k4 < n4 ∧ n4 ≤ 1000 ∧ Post (f4 k4)) ∧ (v1 = (6 : Int32) → Post v3)) ∧ (v1 = (5 : Int32) → Post v2)) ∧ (v1 = (4 : Int32) → ∃ x5, mB mu v0 = some x5 ∧ ∃ a5, x5.2.2.2.2.2.1 = some a5 ∧ ∃ n6 f6, mQ mu a5 = some (2, n6, f6) ∧ Post (nI n6))) ∧ (v1 = (3 : Int32) → ∃ x7, mB mu v0 = some x7 ∧ Post x7.2.2.2.1)) ∧ (v1 = (2 : Int32) → ∃ x8, mB mu v0 = some x8 ∧ Post x8.2.2.1)) ∧ (v1 = (1 : Int32) → ∃ x9, mB mu v0 = some x9 ∧ Post x9.2.1)) ∧ (v1 = 0 → ∃ x10, mB mu v0 = some x10 ∧ Post x10.1)) ∧ (¬ v5 ≤ v6 → ∃ n11 f11 k11, mQ mu v4 = some (2, n11, f11) ∧ v6 = nI k11 ∧ k11 < n11 ∧ n11 ≤ 1000 ∧ ∃ a11, f11 k11 = some a11 ∧ ∃ x12, mP mu a11 = some x12 ∧ ∃ a12, x12.2.2.2 = some a12 ∧ ∃ n13 f13, mI mu a12 = some (n13, f13) ∧ ∃ x14, mP mu a11 = some x14 ∧ (0 ≤ x14.2.2.1 → wpX7_told_b55 mu Post (wpX7_told_L18 mu Post  nn18) v0 v1 (v2 + (nI n13)) v4 v5 v6 v3 (1 : Int32)) ∧ (¬ 0 ≤ x14.2.2.1 → wpX7_told_b55 mu Post (wpX7_told_L18 mu Post  nn18) v0 v1 (v2 + (nI n13)) v4 v5 v6 v3 (0 : Int32))) := H
      refine k_iload C 6 (pc := 18) dX7_told_18 rfl ?_
      refine k_iload C 5 (pc := 20) dX7_told_20 rfl ?_
      refine k_icmp_ge C (pc := 22) (tgt := 63) dX7_told_22 (by decide) (fun c_22 => ?_) (fun c_22 => ?_)
      · have H := H.1 c_22
        refine k_iload_n C 1 (pc := 63) dX7_told_63 rfl rfl ?_
        refine k_if_ne C (pc := 64) (tgt := 74) dX7_told_64 (by decide) (fun c_64 => ?_) (fun c_64 => ?_)
        · have H := H.1 c_64
          refine k_iload_n C 1 (pc := 74) dX7_told_74 rfl rfl ?_
          refine k_iconst C (pc := 75) (v := (1 : Int32)) dX7_told_75 rfl ?_
          refine k_icmp_ne C (pc := 76) (tgt := 86) dX7_told_76 (by decide) (fun c_76 => ?_) (fun c_76 => ?_)
          · have H := H.1 c_76
            refine k_iload_n C 1 (pc := 86) dX7_told_86 rfl rfl ?_
            refine k_iconst C (pc := 87) (v := (2 : Int32)) dX7_told_87 rfl ?_
            refine k_icmp_ne C (pc := 88) (tgt := 98) dX7_told_88 (by decide) (fun c_88 => ?_) (fun c_88 => ?_)
            · have H := H.1 c_88
              refine k_iload_n C 1 (pc := 98) dX7_told_98 rfl rfl ?_
              refine k_iconst C (pc := 99) (v := (3 : Int32)) dX7_told_99 rfl ?_
              refine k_icmp_ne C (pc := 100) (tgt := 110) dX7_told_100 (by decide) (fun c_100 => ?_) (fun c_100 => ?_)
              · have H := H.1 c_100
                refine k_iload_n C 1 (pc := 110) dX7_told_110 rfl rfl ?_
                refine k_iconst C (pc := 111) (v := (4 : Int32)) dX7_told_111 rfl ?_
                refine k_icmp_ne C (pc := 112) (tgt := 123) dX7_told_112 (by decide) (fun c_112 => ?_) (fun c_112 => ?_)
                · have H := H.1 c_112
                  refine k_iload_n C 1 (pc := 123) dX7_told_123 rfl rfl ?_
                  refine k_iconst C (pc := 124) (v := (5 : Int32)) dX7_told_124 rfl ?_
                  refine k_icmp_ne C (pc := 125) (tgt := 132) dX7_told_125 (by decide) (fun c_125 => ?_) (fun c_125 => ?_)
                  · have H := H.1 c_125
                    refine k_iload_n C 1 (pc := 132) dX7_told_132 rfl rfl ?_
                    refine k_bipush C (pc := 133) (v := (6 : Int32)) dX7_told_133 (by decide) ?_
                    refine k_icmp_ne C (pc := 135) (tgt := 142) dX7_told_135 (by decide) (fun c_135 => ?_) (fun c_135 => ?_)
                    · have H := H.1 c_135
                      refine k_aload_n C 0 (pc := 142) dX7_told_142 rfl rfl ?_
                      obtain ⟨x3, hx3, H⟩ := H
                      obtain ⟨a3, ha3, H⟩ := H
                      refine l_getB C hR (pc := 143) hx3 4 (Nat.lt_of_lt_of_le (Nat.lt_succ_self _) (Nat.le_of_ble_eq_true rfl)) (ref := "WidowWatchLaw$Book") tW_2_70 rfl (v := .ref a3) (by show some (va_rf x3.2.2.2.2.1) = _; rw [ha3]; rfl) dX7_told_143 ?_
                      refine k_iload_n C 1 (pc := 146) dX7_told_146 rfl rfl ?_
                      refine k_bipush C (pc := 147) (v := (7 : Int32)) dX7_told_147 (by decide) ?_
                      refine k_isub C (pc := 149) dX7_told_149 ?_
                      obtain ⟨n4, f4, k4, hx_, hk_, hl_, hn_, H⟩ := H
                      refine k_eq (pc := 150) (st' := [.int (nI k4), .ref a3]) rfl rfl (by rw [hk_]) ?_
                      refine l_iald C hR (pc := 150) hx_ hl_ hn_ dX7_told_150 ?_
                      exact k_iret C (pc := 151) hr dX7_told_151 ⟨rfl, H⟩
                    · have H := H.2 c_135
                      refine k_iload_n C 3 (pc := 138) dX7_told_138 rfl rfl ?_
                      refine k_goto C (pc := 139) (tgt := 151) dX7_told_139 (by decide) ?_
                      exact k_iret C (pc := 151) hr dX7_told_151 ⟨rfl, H⟩
                  · have H := H.2 c_125
                    refine k_iload_n C 2 (pc := 128) dX7_told_128 rfl rfl ?_
                    refine k_goto C (pc := 129) (tgt := 151) dX7_told_129 (by decide) ?_
                    exact k_iret C (pc := 151) hr dX7_told_151 ⟨rfl, H⟩
                · have H := H.2 c_112
                  refine k_aload_n C 0 (pc := 115) dX7_told_115 rfl rfl ?_
                  obtain ⟨x5, hx5, H⟩ := H
                  obtain ⟨a5, ha5, H⟩ := H
                  refine l_getB C hR (pc := 116) hx5 5 (Nat.lt_of_lt_of_le (Nat.lt_succ_self _) (Nat.le_of_ble_eq_true rfl)) (ref := "WidowWatchLaw$Book") tW_2_72 rfl (v := .ref a5) (by show some (va_rf x5.2.2.2.2.2.1) = _; rw [ha5]; rfl) dX7_told_116 ?_
                  obtain ⟨n6, f6, hx_, H⟩ := H
                  refine l_alenQ C hR (pc := 119) (Or.inl rfl) hx_ dX7_told_119 ?_
                  refine k_goto C (pc := 120) (tgt := 151) dX7_told_120 (by decide) ?_
                  exact k_iret C (pc := 151) hr dX7_told_151 ⟨rfl, H⟩
              · have H := H.2 c_100
                refine k_aload_n C 0 (pc := 103) dX7_told_103 rfl rfl ?_
                obtain ⟨x7, hx7, H⟩ := H
                refine l_getB C hR (pc := 104) hx7 3 (Nat.lt_of_lt_of_le (Nat.lt_succ_self _) (Nat.le_of_ble_eq_true rfl)) (ref := "WidowWatchLaw$Book") tW_2_68 rfl (v := .int x7.2.2.2.1) rfl dX7_told_104 ?_
                refine k_goto C (pc := 107) (tgt := 151) dX7_told_107 (by decide) ?_
                exact k_iret C (pc := 151) hr dX7_told_151 ⟨rfl, H⟩
            · have H := H.2 c_88
              refine k_aload_n C 0 (pc := 91) dX7_told_91 rfl rfl ?_
              obtain ⟨x8, hx8, H⟩ := H
              refine l_getB C hR (pc := 92) hx8 2 (Nat.lt_of_lt_of_le (Nat.lt_succ_self _) (Nat.le_of_ble_eq_true rfl)) (ref := "WidowWatchLaw$Book") tW_2_66 rfl (v := .int x8.2.2.1) rfl dX7_told_92 ?_
              refine k_goto C (pc := 95) (tgt := 151) dX7_told_95 (by decide) ?_
              exact k_iret C (pc := 151) hr dX7_told_151 ⟨rfl, H⟩
          · have H := H.2 c_76
            refine k_aload_n C 0 (pc := 79) dX7_told_79 rfl rfl ?_
            obtain ⟨x9, hx9, H⟩ := H
            refine l_getB C hR (pc := 80) hx9 1 (Nat.lt_of_lt_of_le (Nat.lt_succ_self _) (Nat.le_of_ble_eq_true rfl)) (ref := "WidowWatchLaw$Book") tW_2_64 rfl (v := .int x9.2.1) rfl dX7_told_80 ?_
            refine k_goto C (pc := 83) (tgt := 151) dX7_told_83 (by decide) ?_
            exact k_iret C (pc := 151) hr dX7_told_151 ⟨rfl, H⟩
        · have H := H.2 c_64
          refine k_aload_n C 0 (pc := 67) dX7_told_67 rfl rfl ?_
          obtain ⟨x10, hx10, H⟩ := H
          refine l_getB C hR (pc := 68) hx10 0 (Nat.lt_of_lt_of_le (Nat.lt_succ_self _) (Nat.le_of_ble_eq_true rfl)) (ref := "WidowWatchLaw$Book") tW_2_62 rfl (v := .int x10.1) rfl dX7_told_68 ?_
          refine k_goto C (pc := 71) (tgt := 151) dX7_told_71 (by decide) ?_
          exact k_iret C (pc := 151) hr dX7_told_151 ⟨rfl, H⟩
      · have H := H.2 c_22
        refine k_aload C 4 (pc := 25) dX7_told_25 rfl ?_
        refine k_iload C 6 (pc := 27) dX7_told_27 rfl ?_
        obtain ⟨n11, f11, k11, hx_, hk_, hl_, hn_, H⟩ := H
        refine k_eq (pc := 29) (st' := [.int (nI k11), .ref v4]) rfl rfl (by rw [hk_]) ?_
        obtain ⟨a11, ha11, H⟩ := H
        refine l_aald C hR (pc := 29) (Or.inl rfl) hx_ hl_ hn_ dX7_told_29 ?_
        refine k_eq (pc := 30) (st' := [.ref a11]) rfl rfl (by rw [ha11]; rfl) ?_
        refine k_astore C (pc := 30) dX7_told_30 (Nat.lt_of_lt_of_le (Nat.lt_succ_self _) (Nat.le_of_ble_eq_true rfl)) (lv' := [(7, .ref a11), (0, .ref v0), (1, .int v1), (2, .int v2), (3, .int v3), (4, .ref v4), (5, .int v5), (6, .int v6)]) rfl ?_
        refine k_iload_n C 3 (pc := 32) dX7_told_32 rfl rfl ?_
        refine k_aload C 0 (pc := 33) dX7_told_33 rfl ?_
        obtain ⟨x12, hx12, H⟩ := H
        obtain ⟨a12, ha12, H⟩ := H
        refine l_getP C hR (pc := 35) hx12 3 (Nat.lt_of_lt_of_le (Nat.lt_succ_self _) (Nat.le_of_ble_eq_true rfl)) (ref := "WidowWatchLaw$Para") tW_2_132 rfl (v := .ref a12) (by show some (va_rf x12.2.2.2) = _; rw [ha12]; rfl) dX7_told_35 ?_
        obtain ⟨n13, f13, hx_, H⟩ := H
        refine l_alen C hR (pc := 38) hx_ dX7_told_38 ?_
        refine k_iadd C (pc := 39) dX7_told_39 ?_
        refine k_istore_n C (pc := 40) dX7_told_40 rfl (Nat.lt_of_lt_of_le (Nat.lt_succ_self _) (Nat.le_of_ble_eq_true rfl)) (lv' := [(2, .int (v2 + (nI n13))), (7, .ref a11), (0, .ref v0), (1, .int v1), (3, .int v3), (4, .ref v4), (5, .int v5), (6, .int v6)]) rfl ?_
        refine k_iload_n C 4 (pc := 41) dX7_told_41 rfl rfl ?_
        refine k_aload C 1 (pc := 42) dX7_told_42 rfl ?_
        obtain ⟨x14, hx14, H⟩ := H
        refine l_getP C hR (pc := 44) hx14 2 (Nat.lt_of_lt_of_le (Nat.lt_succ_self _) (Nat.le_of_ble_eq_true rfl)) (ref := "WidowWatchLaw$Para") tW_2_129 rfl (v := .int x14.2.2.1) rfl dX7_told_44 ?_
        refine k_if_ge C (pc := 47) (tgt := 54) dX7_told_47 (by decide) (fun c_47 => ?_) (fun c_47 => ?_)
        · have H := H.1 c_47
          refine k_iconst C (pc := 54) (v := (1 : Int32)) dX7_told_54 rfl ?_
          refine k_lv (pc := 55) [2, 3, 0, 5, 6, 7] (lv' := [(0, .ref v0), (1, .int v1), (2, .int (v2 + (nI n13))), (4, .ref v4), (5, .int v5), (6, .int v6)]) rfl ?_
          exact B55 (wpX7_told_L18 mu Post  nn18) ih18 v0 v1 (v2 + (nI n13)) v4 v5 v6 v3 (1 : Int32) H
        · have H := H.2 c_47
          refine k_iconst C (pc := 50) (v := (0 : Int32)) dX7_told_50 rfl ?_
          refine k_goto C (pc := 51) (tgt := 55) dX7_told_51 (by decide) ?_
          refine k_lv (pc := 55) [2, 3, 0, 5, 6, 7] (lv' := [(0, .ref v0), (1, .int v1), (2, .int (v2 + (nI n13))), (4, .ref v4), (5, .int v5), (6, .int v6)]) rfl ?_
          exact B55 (wpX7_told_L18 mu Post  nn18) ih18 v0 v1 (v2 + (nI n13)) v4 v5 v6 v3 (0 : Int32) H
  refine k_eq (ws' := ws0) (lv' := [(0, .ref v0), (1, .int v1)]) (st' := []) rfl rfl rfl ?_
  have H : ∃ x1, mB mu v0 = some x1 ∧ ∃ a1, x1.2.2.2.2.2.1 = some a1 ∧ ∃ n2 f2, mQ mu a1 = some (2, n2, f2) ∧ ∃ m_, wpX7_told_L18 mu Post  m_ v0 v1 (0 : Int32) (0 : Int32) a1 (nI n2) (0 : Int32) := H
  refine k_iconst C (pc := 0) (v := (0 : Int32)) dX7_told_0 rfl ?_
  refine k_istore_n C (pc := 1) dX7_told_1 rfl (Nat.lt_of_lt_of_le (Nat.lt_succ_self _) (Nat.le_of_ble_eq_true rfl)) (lv' := [(2, .int (0 : Int32)), (0, .ref v0), (1, .int v1)]) rfl ?_
  refine k_iconst C (pc := 2) (v := (0 : Int32)) dX7_told_2 rfl ?_
  refine k_istore_n C (pc := 3) dX7_told_3 rfl (Nat.lt_of_lt_of_le (Nat.lt_succ_self _) (Nat.le_of_ble_eq_true rfl)) (lv' := [(3, .int (0 : Int32)), (2, .int (0 : Int32)), (0, .ref v0), (1, .int v1)]) rfl ?_
  refine k_aload_n C 2 (pc := 4) dX7_told_4 rfl rfl ?_
  obtain ⟨x1, hx1, H⟩ := H
  obtain ⟨a1, ha1, H⟩ := H
  refine l_getB C hR (pc := 5) hx1 5 (Nat.lt_of_lt_of_le (Nat.lt_succ_self _) (Nat.le_of_ble_eq_true rfl)) (ref := "WidowWatchLaw$Book") tW_2_72 rfl (v := .ref a1) (by show some (va_rf x1.2.2.2.2.2.1) = _; rw [ha1]; rfl) dX7_told_5 ?_
  refine k_astore C (pc := 8) dX7_told_8 (Nat.lt_of_lt_of_le (Nat.lt_succ_self _) (Nat.le_of_ble_eq_true rfl)) (lv' := [(4, .ref a1), (3, .int (0 : Int32)), (2, .int (0 : Int32)), (0, .ref v0), (1, .int v1)]) rfl ?_
  refine k_aload C 0 (pc := 10) dX7_told_10 rfl ?_
  obtain ⟨n2, f2, hx_, H⟩ := H
  refine l_alenQ C hR (pc := 12) (Or.inl rfl) hx_ dX7_told_12 ?_
  refine k_istore C (pc := 13) dX7_told_13 (Nat.lt_of_lt_of_le (Nat.lt_succ_self _) (Nat.le_of_ble_eq_true rfl)) (lv' := [(5, .int (nI n2)), (4, .ref a1), (3, .int (0 : Int32)), (2, .int (0 : Int32)), (0, .ref v0), (1, .int v1)]) rfl ?_
  refine k_iconst C (pc := 15) (v := (0 : Int32)) dX7_told_15 rfl ?_
  refine k_istore C (pc := 16) dX7_told_16 (Nat.lt_of_lt_of_le (Nat.lt_succ_self _) (Nat.le_of_ble_eq_true rfl)) (lv' := [(6, .int (0 : Int32)), (5, .int (nI n2)), (4, .ref a1), (3, .int (0 : Int32)), (2, .int (0 : Int32)), (0, .ref v0), (1, .int v1)]) rfl ?_
  obtain ⟨n_, H⟩ := H
  refine k_lv (pc := 18) [5, 6, 4, 3, 2, 1, 0] (lv' := [(0, .ref v0), (1, .int v1), (2, .int (0 : Int32)), (3, .int (0 : Int32)), (4, .ref a1), (5, .int (nI n2)), (6, .int (0 : Int32))]) rfl ?_
  exact B18  n_ v0 v1 (0 : Int32) (0 : Int32) a1 (nI n2) (0 : Int32) H
/-! WidowWatchLaw$Book.of(IILWidowWatchLaw$Plan;)I -/
theorem dX7_of_0 : decode cX7_of 0 = .ok (.aload_n 0, 1) := by decide +kernel
theorem dX7_of_1 : decode cX7_of 1 = .ok (.getfield 28, 3) := by decide +kernel
theorem dX7_of_4 : decode cX7_of 4 = .ok (.iload_n 1, 1) := by decide +kernel
theorem dX7_of_5 : decode cX7_of 5 = .ok (.aaload, 1) := by decide +kernel
theorem dX7_of_6 : decode cX7_of 6 = .ok (.astore 4, 2) := by decide +kernel
theorem dX7_of_8 : decode cX7_of 8 = .ok (.iload_n 2, 1) := by decide +kernel
theorem dX7_of_9 : decode cX7_of 9 = .ok (.ifCond .ne 12, 3) := by decide +kernel
theorem dX7_of_12 : decode cX7_of 12 = .ok (.aload 4, 2) := by decide +kernel
theorem dX7_of_14 : decode cX7_of 14 = .ok (.getfield 45, 3) := by decide +kernel
theorem dX7_of_17 : decode cX7_of 17 = .ok (.arraylength, 1) := by decide +kernel
theorem dX7_of_18 : decode cX7_of 18 = .ok (.goto 81, 3) := by decide +kernel
theorem dX7_of_21 : decode cX7_of 21 = .ok (.iload_n 2, 1) := by decide +kernel
theorem dX7_of_22 : decode cX7_of 22 = .ok (.iconst 4, 1) := by decide +kernel
theorem dX7_of_23 : decode cX7_of 23 = .ok (.if_icmp .ge 14, 3) := by decide +kernel
theorem dX7_of_26 : decode cX7_of 26 = .ok (.aload_n 0, 1) := by decide +kernel
theorem dX7_of_27 : decode cX7_of 27 = .ok (.iload_n 1, 1) := by decide +kernel
theorem dX7_of_28 : decode cX7_of 28 = .ok (.iload_n 2, 1) := by decide +kernel
theorem dX7_of_29 : decode cX7_of 29 = .ok (.iconst 1, 1) := by decide +kernel
theorem dX7_of_30 : decode cX7_of 30 = .ok (.isub, 1) := by decide +kernel
theorem dX7_of_31 : decode cX7_of 31 = .ok (.invokevirtual 78, 3) := by decide +kernel
theorem dX7_of_34 : decode cX7_of 34 = .ok (.goto 65, 3) := by decide +kernel
theorem dX7_of_37 : decode cX7_of 37 = .ok (.iload_n 2, 1) := by decide +kernel
theorem dX7_of_38 : decode cX7_of 38 = .ok (.iconst 4, 1) := by decide +kernel
theorem dX7_of_39 : decode cX7_of 39 = .ok (.if_icmp .ne 19, 3) := by decide +kernel
theorem dX7_of_42 : decode cX7_of 42 = .ok (.aload 4, 2) := by decide +kernel
theorem dX7_of_44 : decode cX7_of 44 = .ok (.getfield 54, 3) := by decide +kernel
theorem dX7_of_47 : decode cX7_of 47 = .ok (.ifCond .eq 7, 3) := by decide +kernel
theorem dX7_of_50 : decode cX7_of 50 = .ok (.iconst 1, 1) := by decide +kernel
theorem dX7_of_51 : decode cX7_of 51 = .ok (.goto 48, 3) := by decide +kernel
theorem dX7_of_54 : decode cX7_of 54 = .ok (.iconst 0, 1) := by decide +kernel
theorem dX7_of_55 : decode cX7_of 55 = .ok (.goto 44, 3) := by decide +kernel
theorem dX7_of_58 : decode cX7_of 58 = .ok (.iload_n 2, 1) := by decide +kernel
theorem dX7_of_59 : decode cX7_of 59 = .ok (.iconst 5, 1) := by decide +kernel
theorem dX7_of_60 : decode cX7_of 60 = .ok (.if_icmp .ne 19, 3) := by decide +kernel
theorem dX7_of_63 : decode cX7_of 63 = .ok (.aload 4, 2) := by decide +kernel
theorem dX7_of_65 : decode cX7_of 65 = .ok (.getfield 90, 3) := by decide +kernel
theorem dX7_of_68 : decode cX7_of 68 = .ok (.ifCond .eq 7, 3) := by decide +kernel
theorem dX7_of_71 : decode cX7_of 71 = .ok (.iconst 1, 1) := by decide +kernel
theorem dX7_of_72 : decode cX7_of 72 = .ok (.goto 27, 3) := by decide +kernel
theorem dX7_of_75 : decode cX7_of 75 = .ok (.iconst 0, 1) := by decide +kernel
theorem dX7_of_76 : decode cX7_of 76 = .ok (.goto 23, 3) := by decide +kernel
theorem dX7_of_79 : decode cX7_of 79 = .ok (.iload_n 2, 1) := by decide +kernel
theorem dX7_of_80 : decode cX7_of 80 = .ok (.bipush 6, 2) := by decide +kernel
theorem dX7_of_82 : decode cX7_of 82 = .ok (.if_icmp .ne 11, 3) := by decide +kernel
theorem dX7_of_85 : decode cX7_of 85 = .ok (.aload 4, 2) := by decide +kernel
theorem dX7_of_87 : decode cX7_of 87 = .ok (.getfield 75, 3) := by decide +kernel
theorem dX7_of_90 : decode cX7_of 90 = .ok (.goto 9, 3) := by decide +kernel
theorem dX7_of_93 : decode cX7_of 93 = .ok (.aload_n 3, 1) := by decide +kernel
theorem dX7_of_94 : decode cX7_of 94 = .ok (.getfield 70, 3) := by decide +kernel
theorem dX7_of_97 : decode cX7_of 97 = .ok (.iload_n 1, 1) := by decide +kernel
theorem dX7_of_98 : decode cX7_of 98 = .ok (.iaload, 1) := by decide +kernel
theorem dX7_of_99 : decode cX7_of 99 = .ok (.ireturn, 1) := by decide +kernel
theorem okX7_of : okY yX7_of 3 := ⟨by decide +kernel, by decide +kernel, by decide +kernel⟩
def wpX7_of (mu : Mu) (v0 : Nat) (v1 : Int32) (v2 : Int32) (v3 : Nat) (Post : Int32 → Prop) : Prop := ∃ x1, mB mu v0 = some x1 ∧ ∃ a1, x1.2.2.2.2.2.1 = some a1 ∧ ∃ n2 f2 k2, mQ mu a1 = some (2, n2, f2) ∧ v1 = nI k2 ∧ k2 < n2 ∧ n2 ≤ 1000 ∧ ∃ a2, f2 k2 = some a2 ∧ (¬ v2 = 0 → ((4 : Int32) ≤ v2 → (¬ v2 = (4 : Int32) → (¬ v2 = (5 : Int32) → (¬ v2 = (6 : Int32) → ∃ x3, mL mu v3 = some x3 ∧ ∃ a3, x3.2.1 = some a3 ∧ ∃ n4 f4 k4, mI mu a3 = some (n4, f4) ∧ v1 = nI k4 ∧ k4 < n4 ∧ n4 ≤ 1000 ∧ Post (f4 k4)) ∧ (v2 = (6 : Int32) → ∃ x5, mP mu a2 = some x5 ∧ Post x5.2.2.1)) ∧ (v2 = (5 : Int32) → ∃ x6, mP mu a2 = some x6 ∧ (x6.2.1 = 0 → Post (0 : Int32)) ∧ (¬ x6.2.1 = 0 → Post (1 : Int32)))) ∧ (v2 = (4 : Int32) → ∃ x7, mP mu a2 = some x7 ∧ (x7.1 = 0 → Post (0 : Int32)) ∧ (¬ x7.1 = 0 → Post (1 : Int32)))) ∧ (¬ (4 : Int32) ≤ v2 → ∃ x8, mB mu v0 = some x8 ∧ wpX7_many mu v0 v1 (v2 - (1 : Int32)) (fun r9 => Post r9))) ∧ (v2 = 0 → ∃ x10, mP mu a2 = some x10 ∧ ∃ a10, x10.2.2.2 = some a10 ∧ ∃ n11 f11, mI mu a10 = some (n11, f11) ∧ Post (nI n11))
set_option maxHeartbeats 4000000 in
set_option maxRecDepth 100000 in
theorem conX7_of (l : Launch) (D : va_G) (cA : Nat → ClassId) (mu : Mu) (v0 : Nat) (v1 : Int32) (v2 : Int32) (v3 : Nat) (Post : Int32 → Prop)  (H : wpX7_of mu v0 v1 v2 v3 Post) {w0 ws0 : va_W} (hR : LR cA w0 ws0 mu) : ConN l D cA yX7_of (wm yX7_of cX7_of 5 (some .int)) { frames := 1, cells := 0, slots := 0, locals := 30 } ws0 [.ref v0, .int v1, .int v2, .ref v3] 0 0 (PI (fun r w1 => w1 = ws0 ∧ Post r)) := by
  refine ConN.of (by decide) (Nat.le_of_ble_eq_true rfl) ?_
  intro p e s m args below meth c C hF hr hini
  refine k_eq (ws' := ws0) (lv' := [(0, .ref v0), (1, .int v1), (2, .int v2), (3, .ref v3)]) (st' := []) rfl rfl rfl ?_
  have H : ∃ x1, mB mu v0 = some x1 ∧ ∃ a1, x1.2.2.2.2.2.1 = some a1 ∧ ∃ n2 f2 k2, mQ mu a1 = some (2, n2, f2) ∧ v1 = nI k2 ∧ k2 < n2 ∧ n2 ≤ 1000 ∧ ∃ a2, f2 k2 = some a2 ∧ (¬ v2 = 0 → ((4 : Int32) ≤ v2 → (¬ v2 = (4 : Int32) → (¬ v2 = (5 : Int32) → (¬ v2 = (6 : Int32) → ∃ x3, mL mu v3 = some x3 ∧ ∃ a3, x3.2.1 = some a3 ∧ ∃ n4 f4 k4, mI mu a3 = some (n4, f4) ∧ v1 = nI k4 ∧ k4 < n4 ∧ n4 ≤ 1000 ∧ Post (f4 k4)) ∧ (v2 = (6 : Int32) → ∃ x5, mP mu a2 = some x5 ∧ Post x5.2.2.1)) ∧ (v2 = (5 : Int32) → ∃ x6, mP mu a2 = some x6 ∧ (x6.2.1 = 0 → Post (0 : Int32)) ∧ (¬ x6.2.1 = 0 → Post (1 : Int32)))) ∧ (v2 = (4 : Int32) → ∃ x7, mP mu a2 = some x7 ∧ (x7.1 = 0 → Post (0 : Int32)) ∧ (¬ x7.1 = 0 → Post (1 : Int32)))) ∧ (¬ (4 : Int32) ≤ v2 → ∃ x8, mB mu v0 = some x8 ∧ wpX7_many mu v0 v1 (v2 - (1 : Int32)) (fun r9 => Post r9))) ∧ (v2 = 0 → ∃ x10, mP mu a2 = some x10 ∧ ∃ a10, x10.2.2.2 = some a10 ∧ ∃ n11 f11, mI mu a10 = some (n11, f11) ∧ Post (nI n11)) := H
  refine k_aload_n C 0 (pc := 0) dX7_of_0 rfl rfl ?_
  obtain ⟨x1, hx1, H⟩ := H
  obtain ⟨a1, ha1, H⟩ := H
  refine l_getB C hR (pc := 1) hx1 5 (Nat.lt_of_lt_of_le (Nat.lt_succ_self _) (Nat.le_of_ble_eq_true rfl)) (ref := "WidowWatchLaw$Book") tW_2_72 rfl (v := .ref a1) (by show some (va_rf x1.2.2.2.2.2.1) = _; rw [ha1]; rfl) dX7_of_1 ?_
  refine k_iload_n C 1 (pc := 4) dX7_of_4 rfl rfl ?_
  obtain ⟨n2, f2, k2, hx_, hk_, hl_, hn_, H⟩ := H
  refine k_eq (pc := 5) (st' := [.int (nI k2), .ref a1]) rfl rfl (by rw [hk_]) ?_
  obtain ⟨a2, ha2, H⟩ := H
  refine l_aald C hR (pc := 5) (Or.inl rfl) hx_ hl_ hn_ dX7_of_5 ?_
  refine k_eq (pc := 6) (st' := [.ref a2]) rfl rfl (by rw [ha2]; rfl) ?_
  refine k_astore C (pc := 6) dX7_of_6 (Nat.lt_of_lt_of_le (Nat.lt_succ_self _) (Nat.le_of_ble_eq_true rfl)) (lv' := [(4, .ref a2), (0, .ref v0), (1, .int v1), (2, .int v2), (3, .ref v3)]) rfl ?_
  refine k_iload_n C 3 (pc := 8) dX7_of_8 rfl rfl ?_
  refine k_if_ne C (pc := 9) (tgt := 21) dX7_of_9 (by decide) (fun c_9 => ?_) (fun c_9 => ?_)
  · have H := H.1 c_9
    refine k_iload_n C 3 (pc := 21) dX7_of_21 rfl rfl ?_
    refine k_iconst C (pc := 22) (v := (4 : Int32)) dX7_of_22 rfl ?_
    refine k_icmp_ge C (pc := 23) (tgt := 37) dX7_of_23 (by decide) (fun c_23 => ?_) (fun c_23 => ?_)
    · have H := H.1 c_23
      refine k_iload_n C 3 (pc := 37) dX7_of_37 rfl rfl ?_
      refine k_iconst C (pc := 38) (v := (4 : Int32)) dX7_of_38 rfl ?_
      refine k_icmp_ne C (pc := 39) (tgt := 58) dX7_of_39 (by decide) (fun c_39 => ?_) (fun c_39 => ?_)
      · have H := H.1 c_39
        refine k_iload_n C 3 (pc := 58) dX7_of_58 rfl rfl ?_
        refine k_iconst C (pc := 59) (v := (5 : Int32)) dX7_of_59 rfl ?_
        refine k_icmp_ne C (pc := 60) (tgt := 79) dX7_of_60 (by decide) (fun c_60 => ?_) (fun c_60 => ?_)
        · have H := H.1 c_60
          refine k_iload_n C 3 (pc := 79) dX7_of_79 rfl rfl ?_
          refine k_bipush C (pc := 80) (v := (6 : Int32)) dX7_of_80 (by decide) ?_
          refine k_icmp_ne C (pc := 82) (tgt := 93) dX7_of_82 (by decide) (fun c_82 => ?_) (fun c_82 => ?_)
          · have H := H.1 c_82
            refine k_aload_n C 4 (pc := 93) dX7_of_93 rfl rfl ?_
            obtain ⟨x3, hx3, H⟩ := H
            obtain ⟨a3, ha3, H⟩ := H
            refine l_getL C hR (pc := 94) hx3 1 (Nat.lt_of_lt_of_le (Nat.lt_succ_self _) (Nat.le_of_ble_eq_true rfl)) (ref := "WidowWatchLaw$Plan") tW_6_93 rfl (v := .ref a3) (by show some (va_rf x3.2.1) = _; rw [ha3]; rfl) dX7_of_94 ?_
            refine k_iload_n C 2 (pc := 97) dX7_of_97 rfl rfl ?_
            obtain ⟨n4, f4, k4, hx_, hk_, hl_, hn_, H⟩ := H
            refine k_eq (pc := 98) (st' := [.int (nI k4), .ref a3]) rfl rfl (by rw [hk_]) ?_
            refine l_iald C hR (pc := 98) hx_ hl_ hn_ dX7_of_98 ?_
            exact k_iret C (pc := 99) hr dX7_of_99 ⟨rfl, H⟩
          · have H := H.2 c_82
            refine k_aload C 0 (pc := 85) dX7_of_85 rfl ?_
            obtain ⟨x5, hx5, H⟩ := H
            refine l_getP C hR (pc := 87) hx5 2 (Nat.lt_of_lt_of_le (Nat.lt_succ_self _) (Nat.le_of_ble_eq_true rfl)) (ref := "WidowWatchLaw$Para") tW_2_129 rfl (v := .int x5.2.2.1) rfl dX7_of_87 ?_
            refine k_goto C (pc := 90) (tgt := 99) dX7_of_90 (by decide) ?_
            exact k_iret C (pc := 99) hr dX7_of_99 ⟨rfl, H⟩
        · have H := H.2 c_60
          refine k_aload C 0 (pc := 63) dX7_of_63 rfl ?_
          obtain ⟨x6, hx6, H⟩ := H
          refine l_getP C hR (pc := 65) hx6 1 (Nat.lt_of_lt_of_le (Nat.lt_succ_self _) (Nat.le_of_ble_eq_true rfl)) (ref := "WidowWatchLaw$Para") tW_2_126 rfl (v := .int x6.2.1) rfl dX7_of_65 ?_
          refine k_if_eq C (pc := 68) (tgt := 75) dX7_of_68 (by decide) (fun c_68 => ?_) (fun c_68 => ?_)
          · have H := H.1 c_68
            refine k_iconst C (pc := 75) (v := (0 : Int32)) dX7_of_75 rfl ?_
            refine k_goto C (pc := 76) (tgt := 99) dX7_of_76 (by decide) ?_
            exact k_iret C (pc := 99) hr dX7_of_99 ⟨rfl, H⟩
          · have H := H.2 c_68
            refine k_iconst C (pc := 71) (v := (1 : Int32)) dX7_of_71 rfl ?_
            refine k_goto C (pc := 72) (tgt := 99) dX7_of_72 (by decide) ?_
            exact k_iret C (pc := 99) hr dX7_of_99 ⟨rfl, H⟩
      · have H := H.2 c_39
        refine k_aload C 0 (pc := 42) dX7_of_42 rfl ?_
        obtain ⟨x7, hx7, H⟩ := H
        refine l_getP C hR (pc := 44) hx7 0 (Nat.lt_of_lt_of_le (Nat.lt_succ_self _) (Nat.le_of_ble_eq_true rfl)) (ref := "WidowWatchLaw$Para") tW_2_123 rfl (v := .int x7.1) rfl dX7_of_44 ?_
        refine k_if_eq C (pc := 47) (tgt := 54) dX7_of_47 (by decide) (fun c_47 => ?_) (fun c_47 => ?_)
        · have H := H.1 c_47
          refine k_iconst C (pc := 54) (v := (0 : Int32)) dX7_of_54 rfl ?_
          refine k_goto C (pc := 55) (tgt := 99) dX7_of_55 (by decide) ?_
          exact k_iret C (pc := 99) hr dX7_of_99 ⟨rfl, H⟩
        · have H := H.2 c_47
          refine k_iconst C (pc := 50) (v := (1 : Int32)) dX7_of_50 rfl ?_
          refine k_goto C (pc := 51) (tgt := 99) dX7_of_51 (by decide) ?_
          exact k_iret C (pc := 99) hr dX7_of_99 ⟨rfl, H⟩
    · have H := H.2 c_23
      refine k_aload_n C 1 (pc := 26) dX7_of_26 rfl rfl ?_
      refine k_iload_n C 2 (pc := 27) dX7_of_27 rfl rfl ?_
      refine k_iload_n C 3 (pc := 28) dX7_of_28 rfl rfl ?_
      refine k_iconst C (pc := 29) (v := (1 : Int32)) dX7_of_29 rfl ?_
      refine k_isub C (pc := 30) dX7_of_30 ?_
      obtain ⟨x8, hx8, H⟩ := H
      obtain ⟨i8, hi8⟩ := List.getElem?_of_mem (hR.B hx8)
      refine k_callAi C (pc := 31) (l_runV C hF (As := [.int v1, .int (v2 - (1 : Int32))]) (rest := []) (ci := 7) (q0 := i8) (conX7_many l D cA mu v0 v1 (v2 - (1 : Int32)) _  H hR) ⟨k_cwB C tW_2_154 tW_6_103 tW_1_9 okX7_many rfl rfl ⟨Nat.le_of_ble_eq_true rfl, Nat.le_of_ble_eq_true rfl⟩, C.w tW_2_152, C.w tW_2_153⟩ hi8 rfl rfl rfl rfl (Nat.le_of_ble_eq_true rfl) dX7_of_31 ⟨Nat.le_of_ble_eq_true rfl, Nat.le_of_ble_eq_true rfl⟩) (fun r9 w1 hw_ => ?_)
      obtain ⟨rfl, H⟩ := hw_
      refine k_goto C (pc := 34) (tgt := 99) dX7_of_34 (by decide) ?_
      exact k_iret C (pc := 99) hr dX7_of_99 ⟨rfl, H⟩
  · have H := H.2 c_9
    refine k_aload C 0 (pc := 12) dX7_of_12 rfl ?_
    obtain ⟨x10, hx10, H⟩ := H
    obtain ⟨a10, ha10, H⟩ := H
    refine l_getP C hR (pc := 14) hx10 3 (Nat.lt_of_lt_of_le (Nat.lt_succ_self _) (Nat.le_of_ble_eq_true rfl)) (ref := "WidowWatchLaw$Para") tW_2_132 rfl (v := .ref a10) (by show some (va_rf x10.2.2.2) = _; rw [ha10]; rfl) dX7_of_14 ?_
    obtain ⟨n11, f11, hx_, H⟩ := H
    refine l_alen C hR (pc := 17) hx_ dX7_of_17 ?_
    refine k_goto C (pc := 18) (tgt := 99) dX7_of_18 (by decide) ?_
    exact k_iret C (pc := 99) hr dX7_of_99 ⟨rfl, H⟩
