/-! WHAT THE START GIVES: classes, links, String constants, statics. -/
theorem T_1 {i : Nat} {w : Cond} (h : tables_1_1[i]? = some w) : w ∈ lw_tbl := List.mem_append_right _ (List.mem_append_left _ (List.mem_of_getElem? h))
theorem T_2 {i : Nat} {w : Cond} (h : tables_1_2[i]? = some w) : w ∈ lw_tbl := List.mem_append_right _ (List.mem_append_right _ (List.mem_append_left _ (List.mem_of_getElem? h)))
theorem T_3 {i : Nat} {w : Cond} (h : tables_1_3[i]? = some w) : w ∈ lw_tbl := List.mem_append_right _ (List.mem_append_right _ (List.mem_append_right _ (List.mem_append_left _ (List.mem_of_getElem? h))))
theorem T_4 {i : Nat} {w : Cond} (h : tables_1_4[i]? = some w) : w ∈ lw_tbl := List.mem_append_right _ (List.mem_append_right _ (List.mem_append_right _ (List.mem_append_right _ (List.mem_append_left _ (List.mem_of_getElem? h)))))
theorem T_5 {i : Nat} {w : Cond} (h : tables_1_5[i]? = some w) : w ∈ lw_tbl := List.mem_append_right _ (List.mem_append_right _ (List.mem_append_right _ (List.mem_append_right _ (List.mem_append_right _ (List.mem_append_left _ (List.mem_of_getElem? h))))))
theorem T_6 {i : Nat} {w : Cond} (h : tables_1_6[i]? = some w) : w ∈ lw_tbl := List.mem_append_right _ (List.mem_append_right _ (List.mem_append_right _ (List.mem_append_right _ (List.mem_append_right _ (List.mem_append_right _ (List.mem_of_getElem? h))))))
theorem W0L {w : Cond} (h : w ∈ W0) : w ∈ lw_tbl := (List.mem_filter.mp h).1
abbrev st_A (s : State) : Nat → Prop := fun q => s.heap.size ≤ q
theorem st_hA (s : State) : ∀ a : Nat, a < s.heap.size → ¬ st_A s a := fun _ h => Nat.not_le.mpr h
theorem st_at {s : State} {b : Nat} (hgv : (Jvm.Cond.and given_1 narrow_1).before #[Value.ref b] s = true) {i : Nat} {w : Cond} (h : (flatC (Jvm.Cond.and given_1 narrow_1))[i]? = some w) : w.before #[Value.ref b] s = true := flat_of_before _ hgv _ (List.mem_of_getElem? h)
def st_tm : Nat → Term := fun i => match i with
  | 0 => .string "WidowWatch$Reader" 55
  | 1 => .string "WidowWatch$Reader" 81
  | 2 => .string "WidowWatch$Reader" 87
  | 3 => .string "WidowWatch$Reader" 92
  | 4 => .string "WidowWatch$Reader" 108
  | _ => .string "WidowWatch$Reader" 98
set_option maxRecDepth 100000 in
theorem st_str {s : State} {b : Nat} (hgv : (Jvm.Cond.and given_1 narrow_1).before #[Value.ref b] s = true) : ∃ adK adV : Nat → Nat, vk_S 6 strL strB adK adV (st_A s) s s.heap ∧ ∀ i : Nat, i < 6 → (st_tm i).eval #[Value.ref b] s none [] s = some (.ref (adK i)) := by
  refine vk_Sof (tm := st_tm) ?_ ?_ ?_ ?_ ?_ ?_ ?_ (st_hA s)
  · exact fun i hi => match i, hi with
    | 0, _ => by decide
    | 1, _ => by decide
    | 2, _ => by decide
    | 3, _ => by decide
    | 4, _ => by decide
    | 5, _ => by decide
    | n + 6, h => absurd h (by omega)
  · exact fun i hi => match i, hi with
    | 0, _ => (st_at hgv (i := 99) (by decide +kernel))
    | 1, _ => (st_at hgv (i := 108) (by decide +kernel))
    | 2, _ => (st_at hgv (i := 119) (by decide +kernel))
    | 3, _ => (st_at hgv (i := 131) (by decide +kernel))
    | 4, _ => (st_at hgv (i := 143) (by decide +kernel))
    | 5, _ => (st_at hgv (i := 156) (by decide +kernel))
    | n + 6, h => absurd h (by omega)
  · exact fun i hi => match i, hi with
    | 0, _ => (st_at hgv (i := 100) (by decide +kernel))
    | 1, _ => (st_at hgv (i := 109) (by decide +kernel))
    | 2, _ => (st_at hgv (i := 120) (by decide +kernel))
    | 3, _ => (st_at hgv (i := 132) (by decide +kernel))
    | 4, _ => (st_at hgv (i := 144) (by decide +kernel))
    | 5, _ => (st_at hgv (i := 157) (by decide +kernel))
    | n + 6, h => absurd h (by omega)
  · exact fun i hi => match i, hi with
    | 0, _ => (st_at hgv (i := 101) (by decide +kernel))
    | 1, _ => (st_at hgv (i := 110) (by decide +kernel))
    | 2, _ => (st_at hgv (i := 121) (by decide +kernel))
    | 3, _ => (st_at hgv (i := 133) (by decide +kernel))
    | 4, _ => (st_at hgv (i := 145) (by decide +kernel))
    | 5, _ => (st_at hgv (i := 158) (by decide +kernel))
    | n + 6, h => absurd h (by omega)
  · exact fun i hi => match i, hi with
    | 0, _ => (st_at hgv (i := 102) (by decide +kernel))
    | 1, _ => (st_at hgv (i := 111) (by decide +kernel))
    | 2, _ => (st_at hgv (i := 122) (by decide +kernel))
    | 3, _ => (st_at hgv (i := 134) (by decide +kernel))
    | 4, _ => (st_at hgv (i := 146) (by decide +kernel))
    | 5, _ => (st_at hgv (i := 159) (by decide +kernel))
    | n + 6, h => absurd h (by omega)
  · exact fun i hi => match i, hi with
    | 0, _ => fun j hj => match j, hj with
      | 0, _ => (st_at hgv (i := 103) (by decide +kernel))
      | 1, _ => (st_at hgv (i := 104) (by decide +kernel))
      | 2, _ => (st_at hgv (i := 105) (by decide +kernel))
      | 3, _ => (st_at hgv (i := 106) (by decide +kernel))
      | n + 4, h => absurd h (Nat.not_lt.mpr (Nat.le_add_left 4 n))
    | 1, _ => fun j hj => match j, hj with
      | 0, _ => (st_at hgv (i := 112) (by decide +kernel))
      | 1, _ => (st_at hgv (i := 113) (by decide +kernel))
      | 2, _ => (st_at hgv (i := 114) (by decide +kernel))
      | 3, _ => (st_at hgv (i := 115) (by decide +kernel))
      | 4, _ => (st_at hgv (i := 116) (by decide +kernel))
      | n + 5, h => absurd h (Nat.not_lt.mpr (Nat.le_add_left 5 n))
    | 2, _ => fun j hj => match j, hj with
      | 0, _ => (st_at hgv (i := 123) (by decide +kernel))
      | 1, _ => (st_at hgv (i := 124) (by decide +kernel))
      | 2, _ => (st_at hgv (i := 125) (by decide +kernel))
      | 3, _ => (st_at hgv (i := 126) (by decide +kernel))
      | 4, _ => (st_at hgv (i := 127) (by decide +kernel))
      | n + 5, h => absurd h (Nat.not_lt.mpr (Nat.le_add_left 5 n))
    | 3, _ => fun j hj => match j, hj with
      | 0, _ => (st_at hgv (i := 135) (by decide +kernel))
      | 1, _ => (st_at hgv (i := 136) (by decide +kernel))
      | 2, _ => (st_at hgv (i := 137) (by decide +kernel))
      | 3, _ => (st_at hgv (i := 138) (by decide +kernel))
      | n + 4, h => absurd h (Nat.not_lt.mpr (Nat.le_add_left 4 n))
    | 4, _ => fun j hj => match j, hj with
      | 0, _ => (st_at hgv (i := 147) (by decide +kernel))
      | 1, _ => (st_at hgv (i := 148) (by decide +kernel))
      | 2, _ => (st_at hgv (i := 149) (by decide +kernel))
      | 3, _ => (st_at hgv (i := 150) (by decide +kernel))
      | n + 4, h => absurd h (Nat.not_lt.mpr (Nat.le_add_left 4 n))
    | 5, _ => fun j hj => match j, hj with
      | 0, _ => (st_at hgv (i := 160) (by decide +kernel))
      | 1, _ => (st_at hgv (i := 161) (by decide +kernel))
      | 2, _ => (st_at hgv (i := 162) (by decide +kernel))
      | 3, _ => (st_at hgv (i := 163) (by decide +kernel))
      | 4, _ => (st_at hgv (i := 164) (by decide +kernel))
      | 5, _ => (st_at hgv (i := 165) (by decide +kernel))
      | 6, _ => (st_at hgv (i := 166) (by decide +kernel))
      | n + 7, h => absurd h (Nat.not_lt.mpr (Nat.le_add_left 7 n))
    | n + 6, h => absurd h (by omega)
  · exact fun i j hi hj hne => match i, j, hi, hj, hne with
    | 0, 0, _, _, h => absurd rfl h
    | 0, 1, _, _, _ => Or.inl (st_at hgv (i := 118) (by decide +kernel))
    | 0, 2, _, _, _ => Or.inl (st_at hgv (i := 129) (by decide +kernel))
    | 0, 3, _, _, _ => Or.inl (st_at hgv (i := 140) (by decide +kernel))
    | 0, 4, _, _, _ => Or.inl (st_at hgv (i := 152) (by decide +kernel))
    | 0, 5, _, _, _ => Or.inl (st_at hgv (i := 168) (by decide +kernel))
    | 1, 0, _, _, _ => Or.inr (st_at hgv (i := 118) (by decide +kernel))
    | 1, 1, _, _, h => absurd rfl h
    | 1, 2, _, _, _ => Or.inl (st_at hgv (i := 130) (by decide +kernel))
    | 1, 3, _, _, _ => Or.inl (st_at hgv (i := 141) (by decide +kernel))
    | 1, 4, _, _, _ => Or.inl (st_at hgv (i := 153) (by decide +kernel))
    | 1, 5, _, _, _ => Or.inl (st_at hgv (i := 169) (by decide +kernel))
    | 2, 0, _, _, _ => Or.inr (st_at hgv (i := 129) (by decide +kernel))
    | 2, 1, _, _, _ => Or.inr (st_at hgv (i := 130) (by decide +kernel))
    | 2, 2, _, _, h => absurd rfl h
    | 2, 3, _, _, _ => Or.inl (st_at hgv (i := 142) (by decide +kernel))
    | 2, 4, _, _, _ => Or.inl (st_at hgv (i := 154) (by decide +kernel))
    | 2, 5, _, _, _ => Or.inl (st_at hgv (i := 170) (by decide +kernel))
    | 3, 0, _, _, _ => Or.inr (st_at hgv (i := 140) (by decide +kernel))
    | 3, 1, _, _, _ => Or.inr (st_at hgv (i := 141) (by decide +kernel))
    | 3, 2, _, _, _ => Or.inr (st_at hgv (i := 142) (by decide +kernel))
    | 3, 3, _, _, h => absurd rfl h
    | 3, 4, _, _, _ => Or.inl (st_at hgv (i := 155) (by decide +kernel))
    | 3, 5, _, _, _ => Or.inl (st_at hgv (i := 171) (by decide +kernel))
    | 4, 0, _, _, _ => Or.inr (st_at hgv (i := 152) (by decide +kernel))
    | 4, 1, _, _, _ => Or.inr (st_at hgv (i := 153) (by decide +kernel))
    | 4, 2, _, _, _ => Or.inr (st_at hgv (i := 154) (by decide +kernel))
    | 4, 3, _, _, _ => Or.inr (st_at hgv (i := 155) (by decide +kernel))
    | 4, 4, _, _, h => absurd rfl h
    | 4, 5, _, _, _ => Or.inl (st_at hgv (i := 172) (by decide +kernel))
    | 5, 0, _, _, _ => Or.inr (st_at hgv (i := 168) (by decide +kernel))
    | 5, 1, _, _, _ => Or.inr (st_at hgv (i := 169) (by decide +kernel))
    | 5, 2, _, _, _ => Or.inr (st_at hgv (i := 170) (by decide +kernel))
    | 5, 3, _, _, _ => Or.inr (st_at hgv (i := 171) (by decide +kernel))
    | 5, 4, _, _, _ => Or.inr (st_at hgv (i := 172) (by decide +kernel))
    | 5, 5, _, _, h => absurd rfl h
    | n + 6, _, h, _, _ => absurd h (by omega)
    | _, n + 6, _, h, _ => absurd h (by omega)
theorem st_sr {s : State} {b k : Nat} {tx : String} (h1 : (Cond.stringRef "WidowWatch" k tx).before #[Value.ref b] s = true) (h2 : (Cond.exactly (.string "WidowWatch" k) "java/lang/String").before #[Value.ref b] s = true) : ∃ a, vk_R "WidowWatch" k tx a s := by
  obtain ⟨a, c, cA, kA, q1, -⟩ := Cond.exactly_spec (args := #[Value.ref b]) (first := s) (o := none) (s := s) (idx := []) (t := .string "WidowWatch" k) (cls := "java/lang/String") h2
  exact ⟨a, vk_R.of h1 q1⟩
def st_cA (a0 a1 a2 a3 a4 a5 : ClassId) (adK adV : Nat → Nat) (t : Nat) : Nat → ClassId := fun k => match k with
  | 0 => a0
  | 1 => a1
  | 2 => a2
  | 3 => a3
  | 4 => a4
  | 5 => a5
  | k => if k < 200 then adK (k - 100) else if k < 300 then adV (k - 200) else t
theorem st_arr {s : State} {b : Nat} {ty : FieldType} (h : (Cond.arrayClass ty).before #[Value.ref b] s = true) : ∃ c : ClassId, ArrOfT s c ty ∧ s.vm.findClass ("[" ++ ty.toString) = some c := by
  obtain ⟨c, k, comp, h1, h2, h3⟩ := Cond.arrayClass_spec h
  exact ⟨c, fun n z => ⟨fun k h => (by cases h), k, h2, comp, h3⟩, h1⟩
theorem st_arrA {s : State} {b : Nat} {ty : FieldType} (h : (Cond.arrayOver (.array ty)).before #[Value.ref b] s = true) : ∃ c : ClassId, ArrOfT s c (.array ty) ∧ s.vm.findClass ("[" ++ (FieldType.array ty).toString) = some c := by
  obtain ⟨comp, c, k, -, -, h2, h3, h1⟩ := arrayOverA_spec h
  exact ⟨c, fun n z => ⟨fun k h => (by cases h), k, h2, comp, h3⟩, h1⟩
theorem st_arrO {s : State} {b : Nat} {C : String} (h : (Cond.arrayOver (.object C)).before #[Value.ref b] s = true) : ∃ c : ClassId, ArrOfT s c (.object C) ∧ va_RA s c (.object C) := by
  obtain ⟨comp, c, k, h0, -, h2, h3, h1⟩ := Cond.arrayOver_spec h
  exact ⟨c, fun n z => ⟨fun k h => (by cases h), k, h2, comp, h3⟩, k, comp, h2, h3, h0, h1⟩
set_option maxRecDepth 100000 in
set_option maxHeartbeats 4000000 in
theorem st_ev {s : State} {b : Nat} (hts : ∀ w ∈ lw_tbl, w.before #[Value.ref b] s = true) (hgv : (Jvm.Cond.and given_1 narrow_1).before #[Value.ref b] s = true) : ∃ (D : va_G) (cA : Nat → ClassId), EvY D cA (st_A s) s s.heap ∧ FN s := by
  obtain ⟨c0, i0, hk0⟩ := u_known (C := RX0) (T := TX0) (N := 7) (n := 7) hts (fun w hw => W0L (inW_X0 w hw)) (hts _ (T_1 (i := 30) rfl))
  obtain ⟨c1, i1, hk1⟩ := u_known (C := RX1) (T := TX1) (N := 3) (n := 3) hts (fun w hw => W0L (inW_X1 w hw)) (hts _ (T_1 (i := 79) rfl))
  obtain ⟨c2, i2, hk2⟩ := u_known (C := RX2) (T := TX2) (N := 2) (n := 2) hts (fun w hw => W0L (inW_X2 w hw)) (hts _ (T_1 (i := 135) rfl))
  obtain ⟨c3, i3, hk3⟩ := u_known (C := RX3) (T := TX3) (N := 7) (n := 7) hts (fun w hw => W0L (inW_X3 w hw)) (hts _ (T_1 (i := 167) rfl))
  obtain ⟨c4, i4, hk4⟩ := u_known (C := RX4) (T := TX4) (N := 4) (n := 4) hts (fun w hw => W0L (inW_X4 w hw)) (hts _ (T_1 (i := 148) rfl))
  obtain ⟨c5, i5, hk5⟩ := u_known (C := RX5) (T := TX5) (N := 8) (n := 8) hts (fun w hw => W0L (inW_X5 w hw)) (hts _ (T_1 (i := 99) rfl))
  obtain ⟨c6, i6, hk6⟩ := u_known (C := RX6) (T := TX6) (N := 13) (n := 13) hts (fun w hw => W0L (inW_X6 w hw)) (hts _ (T_1 (i := 22) rfl))
  obtain ⟨c7, i7, hk7⟩ := u_known (C := RX7) (T := TX7) (N := 26) (n := 26) hts (fun w hw => W0L (inW_X7 w hw)) (hts _ (T_4 (i := 188) rfl))
  obtain ⟨a0, r0, n0⟩ := st_arr (hts _ (T_1 (i := 77) rfl))
  obtain ⟨a1, r1, n1⟩ := st_arrO (hts _ (T_1 (i := 85) rfl))
  obtain ⟨a2, r2, n2⟩ := st_arrA (hts _ (T_4 (i := 194) rfl))
  obtain ⟨a3, r3, n3⟩ := st_arrA (hts _ (T_4 (i := 197) rfl))
  obtain ⟨a4, r4, n4⟩ := st_arrA (hts _ (T_4 (i := 196) rfl))
  obtain ⟨a5, r5, n5⟩ := st_arr (hts _ (T_6 (i := 93) rfl))
  obtain ⟨adK, adV, hS, hev⟩ := st_str hgv
  obtain ⟨t, ht, hT⟩ := va_Tof (tm := .static "WidowWatch" "USUAL_COSTS" "[I") (ty := .int) (N := 6) (f := fun j => .int (usual.getD j 0)) (A := st_A s) (by decide) (st_at hgv (i := 5) (by decide +kernel)) (va_eqt (st_at hgv (i := 6) (by decide +kernel))) (fun j hj => match j, hj with
    | 0, _ => va_eqt (st_at hgv (i := 7) (by decide +kernel))
    | 1, _ => va_eqt (st_at hgv (i := 8) (by decide +kernel))
    | 2, _ => va_eqt (st_at hgv (i := 9) (by decide +kernel))
    | 3, _ => va_eqt (st_at hgv (i := 10) (by decide +kernel))
    | 4, _ => va_eqt (st_at hgv (i := 11) (by decide +kernel))
    | 5, _ => va_eqt (st_at hgv (i := 12) (by decide +kernel))
    | n + 6, h => absurd h (by omega)) (st_hA s)
  have e1 : ∀ i : Nat, i < 6 → st_cA a0 a1 a2 a3 a4 a5 adK adV t (100 + i) = adK i := fun i hi => match i, hi with
    | 0, _ => rfl
    | 1, _ => rfl
    | 2, _ => rfl
    | 3, _ => rfl
    | 4, _ => rfl
    | 5, _ => rfl
    | n + 6, h => absurd h (by omega)
  have e2 : ∀ i : Nat, i < 6 → st_cA a0 a1 a2 a3 a4 a5 adK adV t (200 + i) = adV i := fun i hi => match i, hi with
    | 0, _ => rfl
    | 1, _ => rfl
    | 2, _ => rfl
    | 3, _ => rfl
    | 4, _ => rfl
    | 5, _ => rfl
    | n + 6, h => absurd h (by omega)
  refine ⟨(fun k => match k with | 0 => c0 | 1 => c1 | 2 => c2 | 3 => c3 | 4 => c4 | 5 => c5 | 6 => c6 | _ => c7, fun k => match k with | 0 => i0 | 1 => i1 | 2 => i2 | 3 => i3 | 4 => i4 | 5 => i5 | 6 => i6 | _ => i7), st_cA a0 a1 a2 a3 a4 a5 adK adV t, ⟨⟨⟨⟨?_, ?_⟩, ?_, ?_, ?_, ⟨?_, ?_⟩, ?_, ?_, ?_, hT⟩, ?_, ?_, ?_, ?_, ?_⟩, ?_⟩, ?_⟩
  · intro k q hq
    match k, hq with
    | 0, hq => cases hq; exact hk0
    | 1, hq => cases hq; exact hk1
    | 2, hq => cases hq; exact hk2
    | 3, hq => cases hq; exact hk3
    | 4, hq => cases hq; exact hk4
    | 5, hq => cases hq; exact hk5
    | 6, hq => cases hq; exact hk6
    | 7, hq => cases hq; exact hk7
    | n + 8, hq => simp [vwCl] at hq
  · intro k q hq
    match k, hq with
    | 0, hq => cases hq; exact ⟨r0, n0⟩
    | 1, hq => cases hq; exact ⟨r1, n1⟩
    | 2, hq => cases hq; exact ⟨r2, n2⟩
    | 3, hq => cases hq; exact ⟨r3, n3⟩
    | 4, hq => cases hq; exact ⟨r4, n4⟩
    | 5, hq => cases hq; exact ⟨r5, n5⟩
    | n + 6, hq => simp [kT] at hq
  · exact List.forall_mem_cons.mpr ⟨va_Nw.of rfl (hts _ (T_1 (i := 41) rfl)), List.forall_mem_cons.mpr ⟨va_Nw.of rfl (hts _ (T_1 (i := 100) rfl)), List.forall_mem_cons.mpr ⟨va_Nw.of rfl (hts _ (T_1 (i := 136) rfl)), List.forall_mem_cons.mpr ⟨va_Nw.of rfl (hts _ (T_1 (i := 149) rfl)), List.forall_mem_cons.mpr ⟨va_Nw.of rfl (hts _ (T_1 (i := 168) rfl)), List.forall_mem_cons.mpr ⟨va_Nw.of rfl (hts _ (T_2 (i := 22) rfl)), List.forall_mem_cons.mpr ⟨va_Nw.of rfl (hts _ (T_2 (i := 31) rfl)), List.forall_mem_cons.mpr ⟨va_Nw.of rfl (hts _ (T_2 (i := 38) rfl)), List.forall_mem_cons.mpr ⟨va_Nw.of rfl (hts _ (T_2 (i := 59) rfl)), List.forall_mem_cons.mpr ⟨va_Nw.of rfl (hts _ (T_2 (i := 90) rfl)), List.forall_mem_cons.mpr ⟨va_Nw.of rfl (hts _ (T_2 (i := 95) rfl)), List.forall_mem_cons.mpr ⟨va_Nw.of rfl (hts _ (T_2 (i := 211) rfl)), List.forall_mem_cons.mpr ⟨va_Nw.of rfl (hts _ (T_3 (i := 102) rfl)), List.forall_mem_cons.mpr ⟨va_Nw.of rfl (hts _ (T_3 (i := 186) rfl)), fun _ h => absurd h List.not_mem_nil⟩⟩⟩⟩⟩⟩⟩⟩⟩⟩⟩⟩⟩⟩
  · exact List.forall_mem_cons.mpr ⟨vk_R.of (hts _ (T_3 (i := 93) rfl)) (hev 0 (by decide)), List.forall_mem_cons.mpr ⟨vk_R.of (hts _ (T_3 (i := 177) rfl)) (hev 1 (by decide)), List.forall_mem_cons.mpr ⟨vk_R.of (hts _ (T_3 (i := 187) rfl)) (hev 2 (by decide)), List.forall_mem_cons.mpr ⟨vk_R.of (hts _ (T_3 (i := 192) rfl)) (hev 3 (by decide)), List.forall_mem_cons.mpr ⟨vk_R.of (hts _ (T_3 (i := 197) rfl)) (hev 4 (by decide)), List.forall_mem_cons.mpr ⟨vk_R.of (hts _ (T_3 (i := 222) rfl)) (hev 5 (by decide)), List.forall_mem_cons.mpr ⟨vk_R.of (hts _ (T_5 (i := 59) rfl)) (va_eqR (st_at hgv (i := 474) (by decide +kernel)) (hev 0 (by decide))), List.forall_mem_cons.mpr ⟨vk_R.of (hts _ (T_5 (i := 101) rfl)) (va_eqR (st_at hgv (i := 500) (by decide +kernel)) (hev 1 (by decide))), List.forall_mem_cons.mpr ⟨vk_R.of (hts _ (T_5 (i := 106) rfl)) (va_eqR (st_at hgv (i := 527) (by decide +kernel)) (hev 2 (by decide))), List.forall_mem_cons.mpr ⟨vk_R.of (hts _ (T_5 (i := 107) rfl)) (va_eqR (st_at hgv (i := 554) (by decide +kernel)) (hev 3 (by decide))), List.forall_mem_cons.mpr ⟨vk_R.of (hts _ (T_5 (i := 115) rfl)) (va_eqR (st_at hgv (i := 582) (by decide +kernel)) (hev 4 (by decide))), List.forall_mem_cons.mpr ⟨vk_R.of (hts _ (T_5 (i := 116) rfl)) (va_eqR (st_at hgv (i := 614) (by decide +kernel)) (hev 5 (by decide))), fun _ h => absurd h List.not_mem_nil⟩⟩⟩⟩⟩⟩⟩⟩⟩⟩⟩⟩
  · exact va_Nw.of rfl (hts _ (T_1 (i := 39) rfl))
  · intro i hi
    have h := hS.1 i hi
    rw [← e1 i hi, ← e2 i hi] at h
    exact h
  · intro i j hi hj e
    exact hS.2 i j hi hj (by rw [← e1 i hi, ← e1 j hj]; exact e)
  · exact va_Zof (hts _ (T_3 (i := 115) rfl)) (hts _ (T_1 (i := 13) rfl)) (va_eqt (st_at hgv (i := 15) (by decide +kernel))) (st_hA s)
  · exact va_Zqof (hts _ (T_3 (i := 131) rfl)) (hts _ (T_1 (i := 15) rfl)) (st_at hgv (i := 16) (by decide +kernel)) (st_hA s)
  · exact va_Zof (hts _ (T_1 (i := 40) rfl)) (hts _ (T_1 (i := 1) rfl)) ht (st_hA s)
  · exact List.forall_mem_cons.mpr ⟨st_sr (hts _ (T_3 (i := 57) rfl)) (st_at hgv (i := 64) (by decide +kernel)), List.forall_mem_cons.mpr ⟨st_sr (hts _ (T_3 (i := 239) rfl)) (st_at hgv (i := 173) (by decide +kernel)), List.forall_mem_cons.mpr ⟨st_sr (hts _ (T_4 (i := 21) rfl)) (st_at hgv (i := 198) (by decide +kernel)), List.forall_mem_cons.mpr ⟨st_sr (hts _ (T_4 (i := 45) rfl)) (st_at hgv (i := 227) (by decide +kernel)), List.forall_mem_cons.mpr ⟨st_sr (hts _ (T_4 (i := 60) rfl)) (st_at hgv (i := 252) (by decide +kernel)), List.forall_mem_cons.mpr ⟨st_sr (hts _ (T_4 (i := 61) rfl)) (st_at hgv (i := 281) (by decide +kernel)), List.forall_mem_cons.mpr ⟨st_sr (hts _ (T_4 (i := 83) rfl)) (st_at hgv (i := 308) (by decide +kernel)), List.forall_mem_cons.mpr ⟨st_sr (hts _ (T_4 (i := 134) rfl)) (st_at hgv (i := 336) (by decide +kernel)), List.forall_mem_cons.mpr ⟨st_sr (hts _ (T_4 (i := 144) rfl)) (st_at hgv (i := 380) (by decide +kernel)), List.forall_mem_cons.mpr ⟨st_sr (hts _ (T_4 (i := 171) rfl)) (st_at hgv (i := 421) (by decide +kernel)), fun _ h => absurd h List.not_mem_nil⟩⟩⟩⟩⟩⟩⟩⟩⟩⟩
  · exact List.forall_mem_cons.mpr ⟨va_Nw.of rfl (hts _ (T_3 (i := 19) rfl)), List.forall_mem_cons.mpr ⟨va_Nw.of rfl (hts _ (T_3 (i := 21) rfl)), List.forall_mem_cons.mpr ⟨va_Nw.of rfl (hts _ (T_3 (i := 23) rfl)), fun _ h => absurd h List.not_mem_nil⟩⟩⟩
  · exact List.forall_mem_cons.mpr ⟨va_Nw.of rfl (hts _ (T_3 (i := 17) rfl)), List.forall_mem_cons.mpr ⟨va_Nw.of rfl (hts _ (T_4 (i := 14) rfl)), List.forall_mem_cons.mpr ⟨va_Nw.of rfl (hts _ (T_4 (i := 38) rfl)), List.forall_mem_cons.mpr ⟨va_Nw.of rfl (hts _ (T_4 (i := 137) rfl)), fun _ h => absurd h List.not_mem_nil⟩⟩⟩⟩
  · exact vx_Zqof (hts _ (T_3 (i := 42) rfl)) (hts _ (T_1 (i := 9) rfl)) (st_at hgv (i := 13) (by decide +kernel)) (st_hA s)
  · exact vx_Zqof (hts _ (T_3 (i := 44) rfl)) (hts _ (T_1 (i := 9) rfl)) (st_at hgv (i := 14) (by decide +kernel)) (st_hA s)
  · exact List.forall_mem_cons.mpr ⟨va_Nc.of (st_at hgv (i := 39) (by decide +kernel)), List.forall_mem_cons.mpr ⟨va_Nc.of (st_at hgv (i := 40) (by decide +kernel)), List.forall_mem_cons.mpr ⟨va_Nc.of (st_at hgv (i := 29) (by decide +kernel)), List.forall_mem_cons.mpr ⟨va_Nc.of (st_at hgv (i := 30) (by decide +kernel)), List.forall_mem_cons.mpr ⟨va_Nc.of (st_at hgv (i := 41) (by decide +kernel)), fun _ h => absurd h List.not_mem_nil⟩⟩⟩⟩⟩
  · exact ⟨va_AO.of (hts _ (T_1 (i := 85) rfl)), va_AOA.of (hts _ (T_4 (i := 194) rfl)), va_AOA.of (hts _ (T_4 (i := 197) rfl)), va_AOA.of (hts _ (T_4 (i := 196) rfl))⟩
