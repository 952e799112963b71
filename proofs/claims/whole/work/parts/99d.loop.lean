/-! THE LAW'S LOOP -/
theorem d_law_23 : decode code 23 = .ok (.iload 4, 2) := by decide +kernel
theorem d_law_25 : decode code 25 = .ok (.aload_n 0, 1) := by decide +kernel
theorem d_law_26 : decode code 26 = .ok (.arraylength, 1) := by decide +kernel
theorem d_law_27 : decode code 27 = .ok (.bipush 6, 2) := by decide +kernel
theorem d_law_29 : decode code 29 = .ok (.isub, 1) := by decide +kernel
theorem d_law_30 : decode code 30 = .ok (.if_icmp .gt 1388, 3) := by decide +kernel
theorem d_law_33 : decode code 33 = .ok (.aload_n 0, 1) := by decide +kernel
theorem d_law_34 : decode code 34 = .ok (.iload 4, 2) := by decide +kernel
theorem d_law_36 : decode code 36 = .ok (.iaload, 1) := by decide +kernel
theorem d_law_37 : decode code 37 = .ok (.bipush 31, 2) := by decide +kernel
theorem d_law_39 : decode code 39 = .ok (.iand, 1) := by decide +kernel
theorem d_law_40 : decode code 40 = .ok (.tableswitch 1372 0 20 #[100, 173, 229, 242, 298, 366, 434, 514, 598, 694, 790, 846, 859, 902, 970, 1061, 1141, 1197, 1277, 1345, 1358], 100) := by decide +kernel
theorem d_law_1412 : decode code 1412 = .ok (.iinc 4 6, 3) := by decide +kernel
theorem d_law_1415 : decode code 1415 = .ok (.goto (-1392), 3) := by decide +kernel
theorem d_law_1418 : decode code 1418 = .ok (.iconst 1, 1) := by decide +kernel
theorem d_law_1419 : decode code 1419 = .ok (.ireturn, 1) := by decide +kernel
theorem lw_go {L i : Nat} (hL : L ≤ 3072) (hi : 6 * i ≤ L) (h : ¬ nI L - (6 : Int32) < nI (6 * i)) : 6 * i + 6 ≤ L := by
  refine Nat.not_lt.mp fun g => h ?_
  rcases Nat.lt_or_ge L 6 with q | q
  · rw [Int32.lt_iff_toInt_lt, nI_toInt (show 6 * i < 2 ^ 31 by omega)]
    have : (nI L - (6 : Int32)).toInt < 0 := by
      match L, q with
      | 0, _ => decide
      | 1, _ => decide
      | 2, _ => decide
      | 3, _ => decide
      | 4, _ => decide
      | 5, _ => decide
      | n + 6, q => exact absurd q (by omega)
    omega
  · rw [li6, sm_sub q, nI_ltI (by omega) (by omega)]
    omega
theorem law_end {p : Program} {l : Launch} {e : Env} {s : State} {m : MethodId} {below : List Frame} {meth : Method} {c : Code} {D : va_G} {cA : Nat → ClassId} {b : Nat} (C : Cx p s m meth c code 9 #[Value.ref b] lw_tbl "WidowWatchLaw" D cA (fun q => s.heap.size ≤ q))  (hr : meth.sig.returnType = ret) {cells slots : Nat} (hc : cells ≤ 601024) (hs : slots ≤ 7293034) {ws : va_W} {lv : List (Nat × Value)} : lwK p l e s m below meth c D b (lw_Z below #[Value.ref b] s) cells slots ws 1418 lv [] := by
  refine k_iconst C (pc := 1418) (v := (1 : Int32)) d_law_1418 rfl ?_
  intro H locs ls hP hD hS hl
  refine va_forget (fun q hq => hS.2.2 q hq) ?_
  refine W.widen (k := 601024) (n := 7293034) hc hs ?_
  refine W.base ?_
  exact lw_ret (Drawn.sameBut.refl s.drawn lw_cs) C.1.1 C.1.2.1 hr C.2.2.2.1 d_law_1419
set_option maxHeartbeats 4000000 in
theorem law_loop {p : Program} {l : Launch} {e : Env} {s : State} {m : MethodId} {below : List Frame} {meth : Method} {c : Code} {D : va_G} {cA : Nat → ClassId} {b L : Nat} {xs : Nat → Int32} (C : Cx p s m meth c code 9 #[Value.ref b] lw_tbl "WidowWatchLaw" D cA (fun q => s.heap.size ≤ q)) (hE : EvY D cA (fun q => s.heap.size ≤ q) s s.heap) (hst : l.stackTraces = false) (hX : va_X b L xs s s.heap) (hbl : b < s.heap.size) (o : Nat) (h ab ac ar hm rH rL rC rP r1 r2 r3 : Nat → Nat) (hL : L ≤ 3072) (hr : meth.sig.returnType = ret) : ∀ (n i : Nat) (f : Nat → Int64) (S : ivS) (th : Int32) (w wM : va_W), 6 * i ≤ L → L < 6 * i + 6 * n → ivI cA h ab ac ar S false w → imI cA hm rH rL rC rP r1 r2 r3 S th wM → lwK p l e s m below meth c D b (lw_Z below #[Value.ref b] s) (2000 + 8 * i) (100000 + 64 * i) ((w ++ [(o, .inl (cA 5, 1, .inr (.inl f)))]) ++ wM) 23 [(0, .ref b), (1, .ref (h 0)), (2, .ref (hm 0)), (3, .ref o), (4, .int (nI (6 * i)))] [] := by
  intro n
  induction n with
  | zero =>
    intro i f S th w wM hi hn
    exact absurd hn (by omega)
  | succ n ih =>
    intro i f S th w wM hi hn hI hM
    have hbA : ¬ (fun q => s.heap.size ≤ q) b := Nat.not_le.mpr hbl
    refine k_iload C 4 (pc := 23) d_law_23 rfl ?_
    refine k_aload_n C 0 (pc := 25) d_law_25 rfl rfl ?_
    refine k_slen C (pc := 26) hX hbl hbA d_law_26 ?_
    refine k_bipush C (pc := 27) (v := (6 : Int32)) d_law_27 (by decide) ?_
    refine k_isub C (pc := 29) d_law_29 ?_
    refine k_icmp_gt C (pc := 30) (tgt := 1418) d_law_30 (by decide) (fun _ => law_end C hr (by omega) (by omega)) (fun c_ => ?_)
    have hgo : 6 * i + 6 ≤ L := lw_go hL hi c_
    have nx : ∀ (f : Nat → Int64) (S : ivS) (th : Int32) (w wM : va_W), ivI cA h ab ac ar S false w → imI cA hm rH rL rC rP r1 r2 r3 S th wM → lwK p l e s m below meth c D b (lw_Z below #[Value.ref b] s) (2000 + 8 * i + 8) (100000 + 64 * i + 64) ((w ++ [(o, .inl (cA 5, 1, .inr (.inl f)))]) ++ wM) 1412 [(0, .ref b), (1, .ref (h 0)), (2, .ref (hm 0)), (3, .ref o), (4, .int (nI (6 * i)))] [] := by
      intro f S th w wM hI hM
      refine k_iinc C (pc := 1412) (k := 4) (v := nI (6 * (i + 1))) d_law_1412 rfl (by rw [show Int32.ofInt 6 = nI 6 from by decide, nI_add]; rfl) (Nat.lt_of_lt_of_le (Nat.lt_succ_self _) (Nat.le_of_ble_eq_true rfl)) (lv' := [(4, .int (nI (6 * (i + 1)))), (0, .ref b), (1, .ref (h 0)), (2, .ref (hm 0)), (3, .ref o)]) rfl ?_
      refine k_goto C (pc := 1415) (tgt := 23) d_law_1415 (by decide) ?_
      refine k_lv (pc := 23) [1, 2, 3, 4, 0] (lv' := [(0, .ref b), (1, .ref (h 0)), (2, .ref (hm 0)), (3, .ref o), (4, .int (nI (6 * (i + 1))))]) rfl ?_
      refine k_widen (k := 2000 + 8 * (i + 1)) (n := 100000 + 64 * (i + 1)) (by omega) (by omega) ?_
      exact ih (i + 1) f S th w wM (by omega) (by omega) hI hM
    refine k_aload_n C 0 (pc := 33) d_law_33 rfl rfl ?_
    refine k_iload C 4 (pc := 34) d_law_34 rfl ?_
    refine k_sld C (pc := 36) hX hbl hbA (lw_hin0 hgo hL) d_law_36 ?_
    refine k_bipush C (pc := 37) (v := (31 : Int32)) d_law_37 (by decide) ?_
    refine k_iand C (pc := 39) d_law_39 ?_
    generalize (xs (nI (6 * i)).toNatClampNeg &&& 31) = x
    by_cases q0 : x = (0 : Int32)
    · refine k_tableIn C (pc := 40) (off := 100) (tgt := 140) d_law_40 (by rw [q0]; decide) (by rw [q0]; decide) (by rw [q0]; rfl) (by decide) ?_
      exact law_c0 C hE hst hX hbl o h ab ac ar hm rH rL rC rP r1 r2 r3 i hgo hL hI hM nx
    by_cases q1 : x = (1 : Int32)
    · refine k_tableIn C (pc := 40) (off := 173) (tgt := 213) d_law_40 (by rw [q1]; decide) (by rw [q1]; decide) (by rw [q1]; rfl) (by decide) ?_
      exact law_c1 C hE hst hX hbl o h ab ac ar hm rH rL rC rP r1 r2 r3 i hgo hL hI hM nx
    by_cases q2 : x = (2 : Int32)
    · refine k_tableIn C (pc := 40) (off := 229) (tgt := 269) d_law_40 (by rw [q2]; decide) (by rw [q2]; decide) (by rw [q2]; rfl) (by decide) ?_
      exact law_c2 C hE hst hX hbl o h ab ac ar hm rH rL rC rP r1 r2 r3 i hgo hL hI hM nx
    by_cases q3 : x = (3 : Int32)
    · refine k_tableIn C (pc := 40) (off := 242) (tgt := 282) d_law_40 (by rw [q3]; decide) (by rw [q3]; decide) (by rw [q3]; rfl) (by decide) ?_
      exact law_c3 C hE hst hX hbl o h ab ac ar hm rH rL rC rP r1 r2 r3 i hgo hL hI hM nx
    by_cases q4 : x = (4 : Int32)
    · refine k_tableIn C (pc := 40) (off := 298) (tgt := 338) d_law_40 (by rw [q4]; decide) (by rw [q4]; decide) (by rw [q4]; rfl) (by decide) ?_
      exact law_c4 C hE hst hX hbl o h ab ac ar hm rH rL rC rP r1 r2 r3 i hgo hL hI hM nx
    by_cases q5 : x = (5 : Int32)
    · refine k_tableIn C (pc := 40) (off := 366) (tgt := 406) d_law_40 (by rw [q5]; decide) (by rw [q5]; decide) (by rw [q5]; rfl) (by decide) ?_
      exact law_c5 C hE hst hX hbl o h ab ac ar hm rH rL rC rP r1 r2 r3 i hgo hL hI hM nx
    by_cases q6 : x = (6 : Int32)
    · refine k_tableIn C (pc := 40) (off := 434) (tgt := 474) d_law_40 (by rw [q6]; decide) (by rw [q6]; decide) (by rw [q6]; rfl) (by decide) ?_
      exact law_c6 C hE hst hX hbl o h ab ac ar hm rH rL rC rP r1 r2 r3 i hgo hL hI hM nx
    by_cases q7 : x = (7 : Int32)
    · refine k_tableIn C (pc := 40) (off := 514) (tgt := 554) d_law_40 (by rw [q7]; decide) (by rw [q7]; decide) (by rw [q7]; rfl) (by decide) ?_
      exact law_c7 C hE hst hX hbl o h ab ac ar hm rH rL rC rP r1 r2 r3 i hgo hL hI hM nx
    by_cases q8 : x = (8 : Int32)
    · refine k_tableIn C (pc := 40) (off := 598) (tgt := 638) d_law_40 (by rw [q8]; decide) (by rw [q8]; decide) (by rw [q8]; rfl) (by decide) ?_
      exact law_c8 C hE hst hX hbl o h ab ac ar hm rH rL rC rP r1 r2 r3 i hgo hL hI hM nx
    by_cases q9 : x = (9 : Int32)
    · refine k_tableIn C (pc := 40) (off := 694) (tgt := 734) d_law_40 (by rw [q9]; decide) (by rw [q9]; decide) (by rw [q9]; rfl) (by decide) ?_
      exact law_c9 C hE hst hX hbl o h ab ac ar hm rH rL rC rP r1 r2 r3 i hgo hL hI hM nx
    by_cases q10 : x = (10 : Int32)
    · refine k_tableIn C (pc := 40) (off := 790) (tgt := 830) d_law_40 (by rw [q10]; decide) (by rw [q10]; decide) (by rw [q10]; rfl) (by decide) ?_
      exact law_c10 C hE hst hX hbl o h ab ac ar hm rH rL rC rP r1 r2 r3 i hgo hL hI hM nx
    by_cases q11 : x = (11 : Int32)
    · refine k_tableIn C (pc := 40) (off := 846) (tgt := 886) d_law_40 (by rw [q11]; decide) (by rw [q11]; decide) (by rw [q11]; rfl) (by decide) ?_
      exact law_c11 C hE hst hX hbl o h ab ac ar hm rH rL rC rP r1 r2 r3 i hgo hL hI hM nx
    by_cases q12 : x = (12 : Int32)
    · refine k_tableIn C (pc := 40) (off := 859) (tgt := 899) d_law_40 (by rw [q12]; decide) (by rw [q12]; decide) (by rw [q12]; rfl) (by decide) ?_
      exact law_c12 C hE hst hX hbl o h ab ac ar hm rH rL rC rP r1 r2 r3 i hgo hL hI hM nx
    by_cases q13 : x = (13 : Int32)
    · refine k_tableIn C (pc := 40) (off := 902) (tgt := 942) d_law_40 (by rw [q13]; decide) (by rw [q13]; decide) (by rw [q13]; rfl) (by decide) ?_
      exact law_c13 C hE hst hX hbl o h ab ac ar hm rH rL rC rP r1 r2 r3 i hgo hL hI hM nx
    by_cases q14 : x = (14 : Int32)
    · refine k_tableIn C (pc := 40) (off := 970) (tgt := 1010) d_law_40 (by rw [q14]; decide) (by rw [q14]; decide) (by rw [q14]; rfl) (by decide) ?_
      exact law_c14 C hE hst hX hbl o h ab ac ar hm rH rL rC rP r1 r2 r3 i hgo hL hI hM nx
    by_cases q15 : x = (15 : Int32)
    · refine k_tableIn C (pc := 40) (off := 1061) (tgt := 1101) d_law_40 (by rw [q15]; decide) (by rw [q15]; decide) (by rw [q15]; rfl) (by decide) ?_
      exact law_c15 C hE hst hX hbl o h ab ac ar hm rH rL rC rP r1 r2 r3 i hgo hL hI hM nx
    by_cases q16 : x = (16 : Int32)
    · refine k_tableIn C (pc := 40) (off := 1141) (tgt := 1181) d_law_40 (by rw [q16]; decide) (by rw [q16]; decide) (by rw [q16]; rfl) (by decide) ?_
      exact law_c16 C hE hst hX hbl o h ab ac ar hm rH rL rC rP r1 r2 r3 i hgo hL hI hM nx
    by_cases q17 : x = (17 : Int32)
    · refine k_tableIn C (pc := 40) (off := 1197) (tgt := 1237) d_law_40 (by rw [q17]; decide) (by rw [q17]; decide) (by rw [q17]; rfl) (by decide) ?_
      exact law_c17 C hE hst hX hbl o h ab ac ar hm rH rL rC rP r1 r2 r3 i hgo hL hI hM nx
    by_cases q18 : x = (18 : Int32)
    · refine k_tableIn C (pc := 40) (off := 1277) (tgt := 1317) d_law_40 (by rw [q18]; decide) (by rw [q18]; decide) (by rw [q18]; rfl) (by decide) ?_
      exact law_c18 C hE hst hX hbl o h ab ac ar hm rH rL rC rP r1 r2 r3 i hgo hL hI hM nx
    by_cases q19 : x = (19 : Int32)
    · refine k_tableIn C (pc := 40) (off := 1345) (tgt := 1385) d_law_40 (by rw [q19]; decide) (by rw [q19]; decide) (by rw [q19]; rfl) (by decide) ?_
      exact law_c19 C hE hst hX hbl o h ab ac ar hm rH rL rC rP r1 r2 r3 i hgo hL hI hM nx
    by_cases q20 : x = (20 : Int32)
    · refine k_tableIn C (pc := 40) (off := 1358) (tgt := 1398) d_law_40 (by rw [q20]; decide) (by rw [q20]; decide) (by rw [q20]; rfl) (by decide) ?_
      exact law_c20 C hE hst hX hbl o h ab ac ar hm rH rL rC rP r1 r2 r3 i hgo hL hI hM nx
    refine k_tableOut C (pc := 40) (tgt := 1412) d_law_40 (k_out_0_20 q0 q1 q2 q3 q4 q5 q6 q7 q8 q9 q10 q11 q12 q13 q14 q15 q16 q17 q18 q19 q20) (by decide) ?_
    refine k_widen (k := 2000 + 8 * i + 8) (n := 100000 + 64 * i + 64) (by omega) (by omega) ?_
    exact nx f S th w wM hI hM
