/-! String.length() and String.charAt(int) over the String constants -/
/-- the j-th letter of the i-th text -/
def chr (i j : Nat) : Int32 := (strB.getD i []).getD j 0
theorem strL_le : ∀ i, i < 10 → strL.getD i 0 < 8 := by decide +kernel
theorem chr_2 : ∀ i, i < 10 → ∀ j, j < strL.getD i 0 → ((chr i j &&& 255).toUInt32 % 65536).toInt32 = chr i j := by decide +kernel
theorem chr_3 : ∀ i, i < 10 → ∀ j, j < strL.getD i 0 → narrow .char (.int (chr i j)) = .int (chr i j) := by decide +kernel
theorem nI_vp {i : Nat} (hi : i < 10) {x : Int32} (h : vp_in x (strL.getD i 0)) : nI x.toNatClampNeg = x := by
  obtain ⟨j, hj, e⟩ := vp_in_of h (by have := strL_le i hi; omega)
  rw [e, nI_clamp (by have := strL_le i hi; omega)]
section KS
variable {p : Program} {l : Launch} {e : Env} {R : Room} {s : State} {m : MethodId} {args : Array Value} {below : List Frame} {meth : Method} {c : Code} {D : va_G} {A : Nat → Prop} {nL cells slots : Nat} {Q : State → Prop} {ws : va_W} {pc : Nat} {lv : List (Nat × Value)} {st : List Value}
variable {cc : ByteArray} {Ts : List Cond} {own : String} {cA : Nat → ClassId}
theorem k_gets (C : Cx p s m meth c cc nL args Ts own D cA A) {Cn n d ref : String} {v : Value} {index : Nat} (hZ : va_Z Cn n d v A s s.heap) (hlink : Cond.fieldLink own index ref n d ∈ W0) (href : ref = Cn) (hdg : decode cc pc = .ok (.getstatic index, 3)) (kk : Kf p l e R s m args below meth c D A nL cells slots Q ws (pc + 3) lv (v :: st)) : Kf p l e R s m args below meth c D A nL cells slots Q ws pc lv st :=
  fun H locs ls hP hD hS hl => va_gets C.1.1 C.1.2.1 hZ hS C.1.2.2.2.1 (C.w hlink) (fun x h => by rw [href]; exact h) hdg (kk H locs ls hP hD hS hl)
theorem k_getsq (C : Cx p s m meth c cc nL args Ts own D cA A) {Cn n d ref : String} {index : Nat} (hZ : va_Zq Cn n d A s s.heap) (hlink : Cond.fieldLink own index ref n d ∈ W0) (href : ref = Cn) (hdg : decode cc pc = .ok (.getstatic index, 3)) (kk : ∀ v : Value, (v = .null ∨ ∃ t, v = .ref t) → Kf p l e R s m args below meth c D A nL cells slots Q ws (pc + 3) lv (v :: st)) : Kf p l e R s m args below meth c D A nL cells slots Q ws pc lv st := by
  rcases hZ with h | ⟨t, h⟩
  · exact k_gets C h hlink href hdg (kk _ (Or.inl rfl))
  · exact k_gets C h hlink href hdg (kk _ (Or.inr ⟨t, rfl⟩))
theorem k_getO (C : Cx p s m meth c cc nL args Ts own D cA A) {o n d ref : String} {index q : Nat} {v : Value} (hE : va_OF o n d v q A s s.heap) (hlink : Cond.fieldLink own index ref n d ∈ W0) (href : ref = o) (hdg : decode cc pc = .ok (.getfield index, 3)) (kk : Kf p l e R s m args below meth c D A nL cells slots Q ws (pc + 3) lv (v :: st)) : Kf p l e R s m args below meth c D A nL cells slots Q ws pc lv (.ref q :: st) :=
  fun H locs ls hP hD hS hl => vk_getf C.1.1 C.1.2.1 hE hS C.1.2.2.2.1 (C.w hlink) (fun x h => by rw [href]; exact h) hdg (kk H locs ls hP hD hS hl)
theorem k_tlen (C : Cx p s m meth c cc nL args Ts own D cA A) {ty : FieldType} {t N : Nat} {f : Nat → Value} {v : Int32} (hT : va_T ty t N f A s s.heap) (hv : Int32.ofNat N = v) (hdg : decode cc pc = .ok (.arraylength, 1)) (kk : Kf p l e R s m args below meth c D A nL cells slots Q ws (pc + 1) lv (.int v :: st)) : Kf p l e R s m args below meth c D A nL cells slots Q ws pc lv (.ref t :: st) :=
  fun H locs ls hP hD hS hl => va_tlen C.1.1 C.1.2.1 hT hS hv hdg (kk H locs ls hP hD hS hl)
theorem k_tb (C : Cx p s m meth c cc nL args Ts own D cA A) {t N : Nat} {f : Nat → Value} {v : Value} {i : Int32} (hT : va_T .byte t N f A s s.heap) (hin : vp_in i N) (hv : f i.toNatClampNeg = v) (hdg : decode cc pc = .ok (.baload, 1)) (kk : Kf p l e R s m args below meth c D A nL cells slots Q ws (pc + 1) lv (v :: st)) : Kf p l e R s m args below meth c D A nL cells slots Q ws pc lv (.int i :: .ref t :: st) :=
  fun H locs ls hP hD hS hl => va_tb C.1.1 C.1.2.1 hT hS hin hv hdg (kk H locs ls hP hD hS hl)
theorem k_ti (C : Cx p s m meth c cc nL args Ts own D cA A) {t N : Nat} {f : Nat → Value} {v : Value} {i : Int32} (hT : va_T .int t N f A s s.heap) (hin : vp_in i N) (hv : f i.toNatClampNeg = v) (hdg : decode cc pc = .ok (.iaload, 1)) (kk : Kf p l e R s m args below meth c D A nL cells slots Q ws (pc + 1) lv (v :: st)) : Kf p l e R s m args below meth c D A nL cells slots Q ws pc lv (.int i :: .ref t :: st) :=
  fun H locs ls hP hD hS hl => va_ti C.1.1 C.1.2.1 hT hS hin hv hdg (kk H locs ls hP hD hS hl)
theorem k_i2c (C : Cx p s m meth c cc nL args Ts own D cA A) {x v : Int32} (hdg : decode cc pc = .ok (.i2c, 1)) (hv : (x.toUInt32 % 65536).toInt32 = v) (kk : Kf p l e R s m args below meth c D A nL cells slots Q ws (pc + 1) lv (.int v :: st)) : Kf p l e R s m args below meth c D A nL cells slots Q ws pc lv (.int x :: st) :=
  fun H locs ls hP hD hS hl => lv_i2c C.1.1 C.1.2.1 hdg hv (kk H locs ls hP hD hS hl)
theorem k_ldcS (C : Cx p s m meth c cc nL args Ts own D cA A) {tx : String} {index q : Nat} (hZ : vk_R own index tx q s) (hdg : decode cc pc = .ok (.ldc index, 2)) (kk : Kf p l e R s m args below meth c D A nL cells slots Q ws (pc + 2) lv (.ref q :: st)) : Kf p l e R s m args below meth c D A nL cells slots Q ws pc lv st :=
  fun H locs ls hP hD hS hl => va_ldcS C.1.1 C.1.2.1 C.1.2.2.2.1 hZ hdg (kk H locs ls hP hD hS hl)
/-- a call of a String constant's method -/
theorem k_runK (C : Cx p s m meth c cc nL args Ts own D cA A) {y : MethodName} {bytes : ByteArray} {maxL index n mc ms i : Nat} {ret : Option FieldType} {wy : List Cond} {rm : Room} {wc : va_W} {As st0 rest : List Value} {Post : Option Value → va_W → Prop} (hi : i < 10) (hM : Con l D cA y wy rm wc (.ref (cA (100 + i)) :: As) mc ms Post) (cw : CallW R s args own "java/lang/String" index y bytes maxL ret wy rm mc ms n) (hn : As.length = n) (hst : st0 = As.reverse ++ .ref (cA (100 + i)) :: rest) (hr : (rest.map fun v => v.category).sum ≤ 8) (hdg : decode cc pc = .ok (.invokevirtual index, 3)) (hf : cells + mc ≤ R.cells ∧ slots + ms ≤ R.slots) : KR p l e R s m args below meth c D A nL cells slots pc st0 rest wc mc ms Post := by
  intro H locs ls hP hD hA hS hl
  have hp := k_pre (av := .ref (cA (100 + i)) :: As) C hP hD hA hS
  exact ⟨_, va_runV (As := As) (rest := rest) C.1 (hM H.size) cw ⟨hp.1, vk_recv C.2.1.2.2.2.2.1 hi hS, hp.2⟩ rfl hn hl hst (lv_room hr) hdg hf⟩
end KS
theorem dJ0_coder_7d493_0 : decode cJ0_coder_7d493 0 = .ok (.getstatic 38, 3) := by decide +kernel
theorem dJ0_coder_7d493_3 : decode cJ0_coder_7d493 3 = .ok (.ifCond .eq 10, 3) := by decide +kernel
theorem dJ0_coder_7d493_6 : decode cJ0_coder_7d493 6 = .ok (.aload_n 0, 1) := by decide +kernel
theorem dJ0_coder_7d493_7 : decode cJ0_coder_7d493 7 = .ok (.getfield 15, 3) := by decide +kernel
theorem dJ0_coder_7d493_10 : decode cJ0_coder_7d493 10 = .ok (.goto 4, 3) := by decide +kernel
theorem dJ0_coder_7d493_13 : decode cJ0_coder_7d493 13 = .ok (.iconst 1, 1) := by decide +kernel
theorem dJ0_coder_7d493_14 : decode cJ0_coder_7d493 14 = .ok (.ireturn, 1) := by decide +kernel
theorem okJ0_coder_7d493 : okY yJ0_coder_7d493 0 := ⟨by decide +kernel, by decide +kernel, by decide +kernel⟩
set_option maxHeartbeats 4000000 in
set_option maxRecDepth 100000 in
theorem conJ0_coder_7d493 (l : Launch) (D : va_G) (cA : Nat → ClassId) (i : Nat) (hi : i < 10) : Con l D cA yJ0_coder_7d493 (wm yJ0_coder_7d493 cJ0_coder_7d493 1 (some .byte)) { frames := 0, cells := 0, slots := 0, locals := 0 } [] [.ref (cA (100 + i))] 0 0 (PI (fun r w1 => w1 = [] ∧ r = 0)) := by
  refine Con.of (by decide) (Nat.le_of_ble_eq_true rfl) ?_
  intro p e s m args below meth c C hr hini
  refine k_eq (ws' := []) (lv' := [(0, .ref (cA (100 + i)))]) (st' := []) rfl rfl rfl ?_
  refine k_gets C (pc := 0) C.2.1.2.2.2.2.2.1 tW_3_39 rfl dJ0_coder_7d493_0 ?_
  refine k_if_eq C (pc := 3) (tgt := 13) dJ0_coder_7d493_3 (by decide) (fun c_ => absurd c_ (by decide)) (fun _ => ?_)
  refine k_aload_n C 0 (pc := 6) dJ0_coder_7d493_6 rfl rfl ?_
  refine k_getO C (pc := 7) (C.2.1.2.2.2.2.1.1 i hi).2.1 tW_6_28 rfl dJ0_coder_7d493_7 ?_
  refine k_goto C (pc := 10) (tgt := 14) dJ0_coder_7d493_10 (by decide) ?_
  exact k_zret C (pc := 14) hr rfl dJ0_coder_7d493_14 ⟨rfl, rfl⟩
theorem dJ0_isLatin1_aae02_0 : decode cJ0_isLatin1_aae02 0 = .ok (.getstatic 38, 3) := by decide +kernel
theorem dJ0_isLatin1_aae02_3 : decode cJ0_isLatin1_aae02 3 = .ok (.ifCond .eq 14, 3) := by decide +kernel
theorem dJ0_isLatin1_aae02_6 : decode cJ0_isLatin1_aae02 6 = .ok (.aload_n 0, 1) := by decide +kernel
theorem dJ0_isLatin1_aae02_7 : decode cJ0_isLatin1_aae02 7 = .ok (.getfield 15, 3) := by decide +kernel
theorem dJ0_isLatin1_aae02_10 : decode cJ0_isLatin1_aae02 10 = .ok (.ifCond .ne 7, 3) := by decide +kernel
theorem dJ0_isLatin1_aae02_13 : decode cJ0_isLatin1_aae02 13 = .ok (.iconst 1, 1) := by decide +kernel
theorem dJ0_isLatin1_aae02_14 : decode cJ0_isLatin1_aae02 14 = .ok (.goto 4, 3) := by decide +kernel
theorem dJ0_isLatin1_aae02_17 : decode cJ0_isLatin1_aae02 17 = .ok (.iconst 0, 1) := by decide +kernel
theorem dJ0_isLatin1_aae02_18 : decode cJ0_isLatin1_aae02 18 = .ok (.ireturn, 1) := by decide +kernel
theorem okJ0_isLatin1_aae02 : okY yJ0_isLatin1_aae02 0 := ⟨by decide +kernel, by decide +kernel, by decide +kernel⟩
set_option maxHeartbeats 4000000 in
set_option maxRecDepth 100000 in
theorem conJ0_isLatin1_aae02 (l : Launch) (D : va_G) (cA : Nat → ClassId) (i : Nat) (hi : i < 10) : Con l D cA yJ0_isLatin1_aae02 (wm yJ0_isLatin1_aae02 cJ0_isLatin1_aae02 1 (some .boolean)) { frames := 0, cells := 0, slots := 0, locals := 0 } [] [.ref (cA (100 + i))] 0 0 (PI (fun r w1 => w1 = [] ∧ r = 1)) := by
  refine Con.of (by decide) (Nat.le_of_ble_eq_true rfl) ?_
  intro p e s m args below meth c C hr hini
  refine k_eq (ws' := []) (lv' := [(0, .ref (cA (100 + i)))]) (st' := []) rfl rfl rfl ?_
  refine k_gets C (pc := 0) C.2.1.2.2.2.2.2.1 tW_3_39 rfl dJ0_isLatin1_aae02_0 ?_
  refine k_if_eq C (pc := 3) (tgt := 17) dJ0_isLatin1_aae02_3 (by decide) (fun c_ => absurd c_ (by decide)) (fun _ => ?_)
  refine k_aload_n C 0 (pc := 6) dJ0_isLatin1_aae02_6 rfl rfl ?_
  refine k_getO C (pc := 7) (C.2.1.2.2.2.2.1.1 i hi).2.1 tW_6_28 rfl dJ0_isLatin1_aae02_7 ?_
  refine k_if_ne C (pc := 10) (tgt := 17) dJ0_isLatin1_aae02_10 (by decide) (fun c_ => absurd rfl c_) (fun _ => ?_)
  refine k_iconst C (pc := 13) (v := 1) dJ0_isLatin1_aae02_13 rfl ?_
  refine k_goto C (pc := 14) (tgt := 18) dJ0_isLatin1_aae02_14 (by decide) ?_
  exact k_zret C (pc := 18) hr rfl dJ0_isLatin1_aae02_18 ⟨rfl, rfl⟩
theorem dJ0_length_8abf5_0 : decode cJ0_length_8abf5 0 = .ok (.aload_n 0, 1) := by decide +kernel
theorem dJ0_length_8abf5_1 : decode cJ0_length_8abf5 1 = .ok (.getfield 9, 3) := by decide +kernel
theorem dJ0_length_8abf5_4 : decode cJ0_length_8abf5 4 = .ok (.arraylength, 1) := by decide +kernel
theorem dJ0_length_8abf5_5 : decode cJ0_length_8abf5 5 = .ok (.aload_n 0, 1) := by decide +kernel
theorem dJ0_length_8abf5_6 : decode cJ0_length_8abf5 6 = .ok (.invokevirtual 335, 3) := by decide +kernel
theorem dJ0_length_8abf5_9 : decode cJ0_length_8abf5 9 = .ok (.ishr, 1) := by decide +kernel
theorem dJ0_length_8abf5_10 : decode cJ0_length_8abf5 10 = .ok (.ireturn, 1) := by decide +kernel
theorem okJ0_length_8abf5 : okY yJ0_length_8abf5 0 := ⟨by decide +kernel, by decide +kernel, by decide +kernel⟩
set_option maxHeartbeats 4000000 in
set_option maxRecDepth 100000 in
theorem conJ0_length_8abf5 (l : Launch) (D : va_G) (cA : Nat → ClassId) (i : Nat) (hi : i < 10) : Con l D cA yJ0_length_8abf5 (wm yJ0_length_8abf5 cJ0_length_8abf5 1 (some .int)) { frames := 1, cells := 0, slots := 0, locals := 20 } [] [.ref (cA (100 + i))] 0 0 (PI (fun r w1 => w1 = [] ∧ r = nI (strL.getD i 0))) := by
  refine Con.of (by decide) (Nat.le_of_ble_eq_true rfl) ?_
  intro p e s m args below meth c C hr hini
  refine k_eq (ws' := []) (lv' := [(0, .ref (cA (100 + i)))]) (st' := []) rfl rfl rfl ?_
  refine k_aload_n C 0 (pc := 0) dJ0_length_8abf5_0 rfl rfl ?_
  refine k_getO C (pc := 1) (C.2.1.2.2.2.2.1.1 i hi).2.2.1 tW_6_27 rfl dJ0_length_8abf5_1 ?_
  refine k_tlen C (pc := 4) (v := nI (strL.getD i 0)) (C.2.1.2.2.2.2.1.1 i hi).2.2.2 rfl dJ0_length_8abf5_4 ?_
  refine k_aload_n C 0 (pc := 5) dJ0_length_8abf5_5 rfl rfl ?_
  refine k_callPi C (pc := 6) [] (wc := []) rfl rfl (k_runK C (As := []) (rest := [.int (nI (strL.getD i 0))]) hi (conJ0_coder_7d493 l D cA i hi) ⟨k_cwB C tW_3_38 tW_3_35 tW_1_18 okJ0_coder_7d493 rfl rfl ⟨Nat.le_of_ble_eq_true rfl, Nat.le_of_ble_eq_true rfl⟩, C.w tW_3_36, C.w tW_3_37⟩ rfl rfl (Nat.le_of_ble_eq_true rfl) dJ0_length_8abf5_6 ⟨Nat.le_of_ble_eq_true rfl, Nat.le_of_ble_eq_true rfl⟩) (fun _ _ h_ => by obtain ⟨rfl, _⟩ := h_; rfl) (fun r_ w1_ hw_ => ?_)
  obtain ⟨rfl, rfl⟩ := hw_
  refine k_eq (pc := 9) (ws' := []) setAll_nil rfl rfl ?_
  refine k_ishr C (pc := 9) dJ0_length_8abf5_9 ?_
  exact k_iret C (pc := 10) hr dJ0_length_8abf5_10 ⟨rfl, sb_shr0 _⟩
theorem dJ3_checkIndex_8e157_0 : decode cJ3_checkIndex_8e157 0 = .ok (.iload_n 0, 1) := by decide +kernel
theorem dJ3_checkIndex_8e157_1 : decode cJ3_checkIndex_8e157 1 = .ok (.ifCond .lt 8, 3) := by decide +kernel
theorem dJ3_checkIndex_8e157_4 : decode cJ3_checkIndex_8e157 4 = .ok (.iload_n 0, 1) := by decide +kernel
theorem dJ3_checkIndex_8e157_5 : decode cJ3_checkIndex_8e157 5 = .ok (.iload_n 1, 1) := by decide +kernel
theorem dJ3_checkIndex_8e157_6 : decode cJ3_checkIndex_8e157 6 = .ok (.if_icmp .lt 10, 3) := by decide +kernel
theorem dJ3_checkIndex_8e157_9 : decode cJ3_checkIndex_8e157 9 = .ok (.aload_n 2, 1) := by decide +kernel
theorem dJ3_checkIndex_8e157_10 : decode cJ3_checkIndex_8e157 10 = .ok (.iload_n 0, 1) := by decide +kernel
theorem dJ3_checkIndex_8e157_11 : decode cJ3_checkIndex_8e157 11 = .ok (.iload_n 1, 1) := by decide +kernel
theorem dJ3_checkIndex_8e157_12 : decode cJ3_checkIndex_8e157 12 = .ok (.invokestatic 95, 3) := by decide +kernel
theorem dJ3_checkIndex_8e157_15 : decode cJ3_checkIndex_8e157 15 = .ok (.athrow, 1) := by decide +kernel
theorem dJ3_checkIndex_8e157_16 : decode cJ3_checkIndex_8e157 16 = .ok (.iload_n 0, 1) := by decide +kernel
theorem dJ3_checkIndex_8e157_17 : decode cJ3_checkIndex_8e157 17 = .ok (.ireturn, 1) := by decide +kernel
theorem okJ3_checkIndex_8e157 : okY yJ3_checkIndex_8e157 3 := ⟨by decide +kernel, by decide +kernel, by decide +kernel⟩
set_option maxHeartbeats 4000000 in
set_option maxRecDepth 100000 in
theorem conJ3_checkIndex_8e157 (l : Launch) (D : va_G) (cA : Nat → ClassId) (x n : Int32) (v : Value) (hv : v = .null ∨ ∃ t, v = .ref t) (h0 : ¬ x < 0) (h1 : x < n) : Con l D cA yJ3_checkIndex_8e157 (wm yJ3_checkIndex_8e157 cJ3_checkIndex_8e157 3 (some .int)) { frames := 0, cells := 0, slots := 0, locals := 0 } [] [.int x, .int n, v] 0 0 (PI (fun r w1 => w1 = [])) := by
  rcases hv with rfl | ⟨t, rfl⟩
  · refine Con.of (by decide) (Nat.le_of_ble_eq_true rfl) ?_
    intro p e s m args below meth c C hr hini
    refine k_eq (ws' := []) (lv' := [(0, .int x), (1, .int n), (2, .null)]) (st' := []) rfl rfl rfl ?_
    refine k_iload_n C 0 (pc := 0) dJ3_checkIndex_8e157_0 rfl rfl ?_
    refine k_if_lt C (pc := 1) (tgt := 9) dJ3_checkIndex_8e157_1 (by decide) (fun c_ => absurd c_ h0) (fun _ => ?_)
    refine k_iload_n C 0 (pc := 4) dJ3_checkIndex_8e157_4 rfl rfl ?_
    refine k_iload_n C 1 (pc := 5) dJ3_checkIndex_8e157_5 rfl rfl ?_
    refine k_icmp_lt C (pc := 6) (tgt := 16) dJ3_checkIndex_8e157_6 (by decide) (fun _ => ?_) (fun c_ => absurd h1 c_)
    refine k_iload_n C 0 (pc := 16) dJ3_checkIndex_8e157_16 rfl rfl ?_
    exact k_iret C (pc := 17) hr dJ3_checkIndex_8e157_17 rfl
  · refine Con.of (by decide) (Nat.le_of_ble_eq_true rfl) ?_
    intro p e s m args below meth c C hr hini
    refine k_eq (ws' := []) (lv' := [(0, .int x), (1, .int n), (2, .ref t)]) (st' := []) rfl rfl rfl ?_
    refine k_iload_n C 0 (pc := 0) dJ3_checkIndex_8e157_0 rfl rfl ?_
    refine k_if_lt C (pc := 1) (tgt := 9) dJ3_checkIndex_8e157_1 (by decide) (fun c_ => absurd c_ h0) (fun _ => ?_)
    refine k_iload_n C 0 (pc := 4) dJ3_checkIndex_8e157_4 rfl rfl ?_
    refine k_iload_n C 1 (pc := 5) dJ3_checkIndex_8e157_5 rfl rfl ?_
    refine k_icmp_lt C (pc := 6) (tgt := 16) dJ3_checkIndex_8e157_6 (by decide) (fun _ => ?_) (fun c_ => absurd h1 c_)
    refine k_iload_n C 0 (pc := 16) dJ3_checkIndex_8e157_16 rfl rfl ?_
    exact k_iret C (pc := 17) hr dJ3_checkIndex_8e157_17 rfl
theorem dJ0_checkIndex_df160_0 : decode cJ0_checkIndex_df160 0 = .ok (.iload_n 0, 1) := by decide +kernel
theorem dJ0_checkIndex_df160_1 : decode cJ0_checkIndex_df160 1 = .ok (.iload_n 1, 1) := by decide +kernel
theorem dJ0_checkIndex_df160_2 : decode cJ0_checkIndex_df160 2 = .ok (.getstatic 1053, 3) := by decide +kernel
theorem dJ0_checkIndex_df160_5 : decode cJ0_checkIndex_df160 5 = .ok (.invokestatic 1059, 3) := by decide +kernel
theorem dJ0_checkIndex_df160_8 : decode cJ0_checkIndex_df160 8 = .ok (.pop, 1) := by decide +kernel
theorem dJ0_checkIndex_df160_9 : decode cJ0_checkIndex_df160 9 = .ok (.return_, 1) := by decide +kernel
theorem okJ0_checkIndex_df160 : okY yJ0_checkIndex_df160 2 := ⟨by decide +kernel, by decide +kernel, by decide +kernel⟩
set_option maxHeartbeats 4000000 in
set_option maxRecDepth 100000 in
theorem conJ0_checkIndex_df160 (l : Launch) (D : va_G) (cA : Nat → ClassId) (x n : Int32) (h0 : ¬ x < 0) (h1 : x < n) : Con l D cA yJ0_checkIndex_df160 (wm yJ0_checkIndex_df160 cJ0_checkIndex_df160 2 none) { frames := 1, cells := 0, slots := 0, locals := 22 } [] [.int x, .int n] 0 0 (PV (fun w1 => w1 = [])) := by
  refine Con.of (by decide) (Nat.le_of_ble_eq_true rfl) ?_
  intro p e s m args below meth c C hr hini
  refine k_eq (ws' := []) (lv' := [(0, .int x), (1, .int n)]) (st' := []) rfl rfl rfl ?_
  refine k_iload_n C 0 (pc := 0) dJ0_checkIndex_df160_0 rfl rfl ?_
  refine k_iload_n C 1 (pc := 1) dJ0_checkIndex_df160_1 rfl rfl ?_
  refine k_getsq C (pc := 2) C.2.1.2.2.2.2.2.2.1 tW_3_55 rfl dJ0_checkIndex_df160_2 (fun v hv => ?_)
  refine k_callPi C (pc := 5) [] (wc := []) rfl rfl (k_runS C (As := [.int x, .int n, v]) (rest := []) (conJ3_checkIndex_8e157 l D cA x n v hv h0 h1) ⟨k_cwB C tW_3_59 tW_3_57 tW_1_20 okJ3_checkIndex_8e157 rfl rfl ⟨Nat.le_of_ble_eq_true rfl, Nat.le_of_ble_eq_true rfl⟩, C.w tW_3_58⟩ rfl rfl (Nat.le_of_ble_eq_true rfl) dJ0_checkIndex_df160_5 ⟨Nat.le_of_ble_eq_true rfl, Nat.le_of_ble_eq_true rfl⟩) (fun _ _ h_ => by subst h_; rfl) (fun r_ w1_ hw_ => ?_)
  subst hw_
  refine k_eq (pc := 8) (ws' := []) setAll_nil rfl rfl ?_
  refine k_pop C (pc := 8) dJ0_checkIndex_df160_8 rfl ?_
  exact k_vret C (pc := 9) hr dJ0_checkIndex_df160_9 rfl
theorem dJ1_charAt_3b067_0 : decode cJ1_charAt_3b067 0 = .ok (.iload_n 1, 1) := by decide +kernel
theorem dJ1_charAt_3b067_1 : decode cJ1_charAt_3b067 1 = .ok (.aload_n 0, 1) := by decide +kernel
theorem dJ1_charAt_3b067_2 : decode cJ1_charAt_3b067 2 = .ok (.arraylength, 1) := by decide +kernel
theorem dJ1_charAt_3b067_3 : decode cJ1_charAt_3b067 3 = .ok (.invokestatic 9, 3) := by decide +kernel
theorem dJ1_charAt_3b067_6 : decode cJ1_charAt_3b067 6 = .ok (.aload_n 0, 1) := by decide +kernel
theorem dJ1_charAt_3b067_7 : decode cJ1_charAt_3b067 7 = .ok (.iload_n 1, 1) := by decide +kernel
theorem dJ1_charAt_3b067_8 : decode cJ1_charAt_3b067 8 = .ok (.baload, 1) := by decide +kernel
theorem dJ1_charAt_3b067_9 : decode cJ1_charAt_3b067 9 = .ok (.sipush 255, 3) := by decide +kernel
theorem dJ1_charAt_3b067_12 : decode cJ1_charAt_3b067 12 = .ok (.iand, 1) := by decide +kernel
theorem dJ1_charAt_3b067_13 : decode cJ1_charAt_3b067 13 = .ok (.i2c, 1) := by decide +kernel
theorem dJ1_charAt_3b067_14 : decode cJ1_charAt_3b067 14 = .ok (.ireturn, 1) := by decide +kernel
theorem okJ1_charAt_3b067 : okY yJ1_charAt_3b067 2 := ⟨by decide +kernel, by decide +kernel, by decide +kernel⟩
set_option maxHeartbeats 4000000 in
set_option maxRecDepth 100000 in
theorem conJ1_charAt_3b067 (l : Launch) (D : va_G) (cA : Nat → ClassId) (i j : Nat) (hi : i < 10) (hj : j < strL.getD i 0) : Con l D cA yJ1_charAt_3b067 (wm yJ1_charAt_3b067 cJ1_charAt_3b067 2 (some .char)) { frames := 2, cells := 0, slots := 0, locals := 44 } [] [.ref (cA (200 + i)), .int (nI j)] 0 0 (PI (fun r w1 => w1 = [] ∧ r = chr i j)) := by
  refine Con.of (by decide) (Nat.le_of_ble_eq_true rfl) ?_
  intro p e s m args below meth c C hr hini
  refine k_eq (ws' := []) (lv' := [(0, .ref (cA (200 + i))), (1, .int (nI j))]) (st' := []) rfl rfl rfl ?_
  refine k_iload_n C 1 (pc := 0) dJ1_charAt_3b067_0 rfl rfl ?_
  refine k_aload_n C 0 (pc := 1) dJ1_charAt_3b067_1 rfl rfl ?_
  refine k_tlen C (pc := 2) (v := nI (strL.getD i 0)) (C.2.1.2.2.2.2.1.1 i hi).2.2.2 rfl dJ1_charAt_3b067_2 ?_
  refine k_callPv C (pc := 3) [] (wc := []) rfl rfl (k_runS C (As := [.int (nI j), .int (nI (strL.getD i 0))]) (rest := []) (conJ0_checkIndex_df160 l D cA (nI j) (nI (strL.getD i 0)) (nI_pos (by have := strL_le i hi; omega)) (nI_lt hj (by have := strL_le i hi; omega))) ⟨k_cwB C tW_3_54 tW_3_52 tW_1_18 okJ0_checkIndex_df160 rfl rfl ⟨Nat.le_of_ble_eq_true rfl, Nat.le_of_ble_eq_true rfl⟩, C.w tW_3_53⟩ rfl rfl (Nat.le_of_ble_eq_true rfl) dJ1_charAt_3b067_3 ⟨Nat.le_of_ble_eq_true rfl, Nat.le_of_ble_eq_true rfl⟩) (fun _ h_ => by subst h_; rfl) (fun w1_ hw_ => ?_)
  subst hw_
  refine k_eq (pc := 6) (ws' := []) setAll_nil rfl rfl ?_
  refine k_aload_n C 0 (pc := 6) dJ1_charAt_3b067_6 rfl rfl ?_
  refine k_iload_n C 1 (pc := 7) dJ1_charAt_3b067_7 rfl rfl ?_
  refine k_tb C (pc := 8) (v := .int (chr i j)) (C.2.1.2.2.2.2.1.1 i hi).2.2.2 (vp_in_nI hj (by have := strL_le i hi; omega)) (by rw [nI_clamp (by have := strL_le i hi; omega)]; rfl) dJ1_charAt_3b067_8 ?_
  refine k_sipush C (pc := 9) (v := 255) dJ1_charAt_3b067_9 (by decide) ?_
  refine k_iand C (pc := 12) dJ1_charAt_3b067_12 ?_
  refine k_i2c C (pc := 13) (v := chr i j) dJ1_charAt_3b067_13 (chr_2 i hi j hj) ?_
  exact k_zret C (pc := 14) hr (chr_3 i hi j hj) dJ1_charAt_3b067_14 ⟨rfl, rfl⟩
theorem dJ0_charAt_5068e_0 : decode cJ0_charAt_5068e 0 = .ok (.aload_n 0, 1) := by decide +kernel
theorem dJ0_charAt_5068e_1 : decode cJ0_charAt_5068e 1 = .ok (.invokevirtual 492, 3) := by decide +kernel
theorem dJ0_charAt_5068e_4 : decode cJ0_charAt_5068e 4 = .ok (.ifCond .eq 12, 3) := by decide +kernel
theorem dJ0_charAt_5068e_7 : decode cJ0_charAt_5068e 7 = .ok (.aload_n 0, 1) := by decide +kernel
theorem dJ0_charAt_5068e_8 : decode cJ0_charAt_5068e 8 = .ok (.getfield 9, 3) := by decide +kernel
theorem dJ0_charAt_5068e_11 : decode cJ0_charAt_5068e 11 = .ok (.iload_n 1, 1) := by decide +kernel
theorem dJ0_charAt_5068e_12 : decode cJ0_charAt_5068e 12 = .ok (.invokestatic 495, 3) := by decide +kernel
theorem dJ0_charAt_5068e_15 : decode cJ0_charAt_5068e 15 = .ok (.ireturn, 1) := by decide +kernel
theorem dJ0_charAt_5068e_16 : decode cJ0_charAt_5068e 16 = .ok (.aload_n 0, 1) := by decide +kernel
theorem dJ0_charAt_5068e_17 : decode cJ0_charAt_5068e 17 = .ok (.getfield 9, 3) := by decide +kernel
theorem dJ0_charAt_5068e_20 : decode cJ0_charAt_5068e 20 = .ok (.iload_n 1, 1) := by decide +kernel
theorem dJ0_charAt_5068e_21 : decode cJ0_charAt_5068e 21 = .ok (.invokestatic 498, 3) := by decide +kernel
theorem dJ0_charAt_5068e_24 : decode cJ0_charAt_5068e 24 = .ok (.ireturn, 1) := by decide +kernel
theorem okJ0_charAt_5068e : okY yJ0_charAt_5068e 1 := ⟨by decide +kernel, by decide +kernel, by decide +kernel⟩
set_option maxHeartbeats 4000000 in
set_option maxRecDepth 100000 in
theorem conJ0_charAt_5068e (l : Launch) (D : va_G) (cA : Nat → ClassId) (i j : Nat) (hi : i < 10) (hj : j < strL.getD i 0) : Con l D cA yJ0_charAt_5068e (wm yJ0_charAt_5068e cJ0_charAt_5068e 2 (some .char)) { frames := 3, cells := 0, slots := 0, locals := 65 } [] [.ref (cA (100 + i)), .int (nI j)] 0 0 (PI (fun r w1 => w1 = [] ∧ r = chr i j)) := by
  refine Con.of (by decide) (Nat.le_of_ble_eq_true rfl) ?_
  intro p e s m args below meth c C hr hini
  refine k_eq (ws' := []) (lv' := [(0, .ref (cA (100 + i))), (1, .int (nI j))]) (st' := []) rfl rfl rfl ?_
  refine k_aload_n C 0 (pc := 0) dJ0_charAt_5068e_0 rfl rfl ?_
  refine k_callPi C (pc := 1) [] (wc := []) rfl rfl (k_runK C (As := []) (rest := []) hi (conJ0_isLatin1_aae02 l D cA i hi) ⟨k_cwB C tW_3_48 tW_3_45 tW_1_18 okJ0_isLatin1_aae02 rfl rfl ⟨Nat.le_of_ble_eq_true rfl, Nat.le_of_ble_eq_true rfl⟩, C.w tW_3_46, C.w tW_3_47⟩ rfl rfl (Nat.le_of_ble_eq_true rfl) dJ0_charAt_5068e_1 ⟨Nat.le_of_ble_eq_true rfl, Nat.le_of_ble_eq_true rfl⟩) (fun _ _ h_ => by obtain ⟨rfl, _⟩ := h_; rfl) (fun r_ w1_ hw_ => ?_)
  obtain ⟨rfl, rfl⟩ := hw_
  refine k_eq (pc := 4) (ws' := []) setAll_nil rfl rfl ?_
  refine k_if_eq C (pc := 4) (tgt := 16) dJ0_charAt_5068e_4 (by decide) (fun c_ => absurd c_ (by decide)) (fun _ => ?_)
  refine k_aload_n C 0 (pc := 7) dJ0_charAt_5068e_7 rfl rfl ?_
  refine k_getO C (pc := 8) (C.2.1.2.2.2.2.1.1 i hi).2.2.1 tW_6_27 rfl dJ0_charAt_5068e_8 ?_
  refine k_iload_n C 1 (pc := 11) dJ0_charAt_5068e_11 rfl rfl ?_
  refine k_callPi C (pc := 12) [] (wc := []) rfl rfl (k_runS C (As := [.ref (cA (200 + i)), .int (nI j)]) (rest := []) (conJ1_charAt_3b067 l D cA i j hi hj) ⟨k_cwB C tW_3_51 tW_3_49 tW_1_19 okJ1_charAt_3b067 rfl rfl ⟨Nat.le_of_ble_eq_true rfl, Nat.le_of_ble_eq_true rfl⟩, C.w tW_3_50⟩ rfl rfl (Nat.le_of_ble_eq_true rfl) dJ0_charAt_5068e_12 ⟨Nat.le_of_ble_eq_true rfl, Nat.le_of_ble_eq_true rfl⟩) (fun _ _ h_ => by obtain ⟨rfl, _⟩ := h_; rfl) (fun r_ w1_ hw_ => ?_)
  obtain ⟨rfl, rfl⟩ := hw_
  refine k_eq (pc := 15) (ws' := []) setAll_nil rfl rfl ?_
  exact k_zret C (pc := 15) hr (chr_3 i hi j hj) dJ0_charAt_5068e_15 ⟨rfl, rfl⟩
