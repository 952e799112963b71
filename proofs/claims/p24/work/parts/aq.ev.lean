/-! WHAT THE START GIVES: classes, links, String constants, statics. -/
theorem T_1 {i : Nat} {w : Cond} (h : tables_1_1[i]? = some w) : w ∈ lw_tbl := List.mem_append_right _ (List.mem_append_left _ (List.mem_of_getElem? h))
theorem T_2 {i : Nat} {w : Cond} (h : tables_1_2[i]? = some w) : w ∈ lw_tbl := List.mem_append_right _ (List.mem_append_right _ (List.mem_append_left _ (List.mem_of_getElem? h)))
theorem T_3 {i : Nat} {w : Cond} (h : tables_1_3[i]? = some w) : w ∈ lw_tbl := List.mem_append_right _ (List.mem_append_right _ (List.mem_append_right _ (List.mem_append_left _ (List.mem_of_getElem? h))))
theorem T_4 {i : Nat} {w : Cond} (h : tables_1_4[i]? = some w) : w ∈ lw_tbl := List.mem_append_right _ (List.mem_append_right _ (List.mem_append_right _ (List.mem_append_right _ (List.mem_append_left _ (List.mem_of_getElem? h)))))
theorem T_5 {i : Nat} {w : Cond} (h : tables_1_5[i]? = some w) : w ∈ lw_tbl := List.mem_append_right _ (List.mem_append_right _ (List.mem_append_right _ (List.mem_append_right _ (List.mem_append_right _ (List.mem_append_left _ (List.mem_of_getElem? h))))))
theorem T_6 {i : Nat} {w : Cond} (h : tables_1_6[i]? = some w) : w ∈ lw_tbl := List.mem_append_right _ (List.mem_append_right _ (List.mem_append_right _ (List.mem_append_right _ (List.mem_append_right _ (List.mem_append_right _ (List.mem_of_getElem? h))))))
theorem W0L {w : Cond} (h : w ∈ W0) : w ∈ lw_tbl := (List.mem_filter.mp h).1
abbrev st_A (s : State) : Nat → Prop := fun q => s.heap.size ≤ q
theorem st_hA (s : State) : ∀ a : Nat, a < s.heap.size → ¬ st_A s a := fun _ h => Nat.not_le.mpr h
theorem st_at {s : State} {b : Nat} (hgv : (Jvm.Cond.and given_1 narrow_1).before #[Value.ref b] s = true) {i : Nat} {w : Cond} (h : (flatC (Jvm.Cond.and given_1 narrow_1))[i]? = some w) : w.before #[Value.ref b] s = true := flat_of_before _ hgv _ (List.mem_of_getElem? h)
def st_tm : Nat → Term := fun i => match i with
  | 0 => .string "WidowWatch$Reader" 55
  | 1 => .string "WidowWatch$Reader" 81
  | 2 => .string "WidowWatch$Reader" 87
  | 3 => .string "WidowWatch$Reader" 92
  | 4 => .string "WidowWatch$Reader" 108
  | 5 => .string "WidowWatch$Reader" 98
  | 6 => .string "WidowWatchLaw" 103
  | 7 => .string "WidowWatchLaw" 108
  | 8 => .string "WidowWatchLaw" 166
  | _ => .string "WidowWatchLaw" 168
theorem st_OF1 {o n d : String} {v w : Value} {t : Nat} {A : Nat → Prop} {U : State} {H : Heap} (h : va_OF o n d v t A U H) (k : va_OF o n d w t A U H) : v = w := by
  obtain ⟨cf, kk, i, f, cell, h1, -, h3, -, h5, -⟩ := h
  obtain ⟨cf', kk', i', f', cell', k1, -, k3, -, k5, -⟩ := k
  rw [h1] at k1
  cases k1
  rw [h3] at k3
  cases k3
  rw [h5] at k5
  exact Option.some.inj k5
theorem st_T1 {ty : FieldType} {t N M : Nat} {f g : Nat → Value} {A : Nat → Prop} {U : State} {H : Heap} (hN : N < 2 ^ 31) (hM : M < 2 ^ 31) (h : va_T ty t N f A U H) (k : va_T ty t M g A U H) : N = M ∧ ∀ j, j < N → f j = g j := by
  obtain ⟨cell, h1, -, -, -, h5, h6, -⟩ := h
  obtain ⟨cell', k1, -, -, -, k5, k6, -⟩ := k
  rw [h1] at k1
  cases k1
  have e : N = M := by
    have e1 : nI N = nI M := h5.symm.trans k5
    exact (nI_eq hN hM).mp e1
  refine ⟨e, fun j hj => ?_⟩
  have a := h6 j hj
  rw [k6 j (by omega)] at a
  exact (Option.some.inj a).symm
/-- the String constants, apart by their texts -/
theorem st_Sof {args : Array Value} {s : State} {N : Nat} {tm : Nat → Term} {len : List Nat} {byt : List (List Int32)} {A : Nat → Prop} (hN : ∀ i : Nat, i < N → len.getD i 0 < 2 ^ 31) (hex : ∀ i : Nat, i < N → (Cond.exactly (tm i) "java/lang/String").before args s = true) (hco : ∀ i : Nat, i < N → (Cond.eq (.field (tm i) "java/lang/String" "coder" "B") (.int 0)).before args s = true)
    (har : ∀ i : Nat, i < N → (Cond.arrayOf (.field (tm i) "java/lang/String" "value" "[B") .byte).before args s = true) (hle : ∀ i : Nat, i < N → (Cond.eq (.length (.field (tm i) "java/lang/String" "value" "[B")) (.int (Int32.ofNat (len.getD i 0)))).before args s = true)
    (hel : ∀ i : Nat, i < N → ∀ j : Nat, j < len.getD i 0 → (Cond.eq (.elem (.field (tm i) "java/lang/String" "value" "[B") (.int (Int32.ofNat j))) (.int ((byt.getD i []).getD j 0))).before args s = true)
    (hne : ∀ i j : Nat, i < N → j < N → len.getD i 0 = len.getD j 0 → (∀ k, k < len.getD i 0 → (byt.getD i []).getD k 0 = (byt.getD j []).getD k 0) → i = j) (hA : ∀ a : Nat, a < s.heap.size → ¬ A a) :
    ∃ adK adV : Nat → Nat, vk_S N len byt adK adV A s s.heap ∧ ∀ i : Nat, i < N → (tm i).eval args s none [] s = some (.ref (adK i)) := by
  have h0 : ∀ i : Nat, ∃ q : Nat × Nat, i < N → (tm i).eval args s none [] s = some (.ref q.1) ∧ va_O "java/lang/String" q.1 A s s.heap ∧ va_OF "java/lang/String" "coder" "B" (.int 0) q.1 A s s.heap ∧ va_OF "java/lang/String" "value" "[B" (.ref q.2) q.1 A s s.heap ∧ va_T .byte q.2 (len.getD i 0) (fun j => .int ((byt.getD i []).getD j 0)) A s s.heap := by
    intro i
    rcases Nat.lt_or_ge i N with hi | hi
    · obtain ⟨k, v, h1, h2⟩ := vk_Sof (args := args) (s := s) (N := 1) (tm := fun _ => tm i) (len := [len.getD i 0]) (byt := [byt.getD i []]) (A := A) (fun j hj => by
        obtain rfl : j = 0 := by omega
        exact hN i hi) (fun _ _ => hex i hi) (fun _ _ => hco i hi) (fun _ _ => har i hi) (fun j hj => by
        obtain rfl : j = 0 := by omega
        exact hle i hi) (fun j hj => by
        obtain rfl : j = 0 := by omega
        exact hel i hi) (fun a c ha hc n => absurd (by omega) n) hA
      exact ⟨(k 0, v 0), fun _ => ⟨h2 0 (by decide), h1.1 0 (by decide)⟩⟩
    · exact ⟨(0, 0), fun h => absurd h (by omega)⟩
  obtain ⟨ad, had⟩ := Classical.axiomOfChoice h0
  refine ⟨fun i => (ad i).1, fun i => (ad i).2, ⟨fun i hi => (had i hi).2, fun i j hi hj e => ?_⟩, fun i hi => (had i hi).1⟩
  obtain ⟨-, -, -, a3, a4⟩ := had i hi
  obtain ⟨-, -, -, b3, b4⟩ := had j hj
  have e : (ad i).1 = (ad j).1 := e
  rw [e] at a3
  have ev := st_OF1 a3 b3
  injection ev with ev
  rw [ev] at a4
  obtain ⟨l1, l2⟩ := st_T1 (hN i hi) (hN j hj) a4 b4
  exact hne i j hi hj l1 (fun k hk => by
    have := l2 k hk
    injection this)
theorem st_ne : ∀ i : Nat, i < 10 → ∀ j : Nat, j < 10 → strL.getD i 0 = strL.getD j 0 → (∀ k, k < strL.getD i 0 → (strB.getD i []).getD k 0 = (strB.getD j []).getD k 0) → i = j := by decide +kernel
/-- a private method of a class above -/
theorem st_selP {s : State} {args : Array Value} {C : String} {y y0 : MethodName} (h0 : (Cond.selects C y0 y0).before args s = true) (h1 : (Cond.privateMethod y).before args s = true) (h2 : (Cond.instanceMethod y).before args s = true) (hcls : y0.cls = y.cls) (hy : y.cls ≠ "java/lang/invoke/MethodHandle" ∧ y.cls ≠ "java/lang/invoke/VarHandle") : (Cond.selects C y y).before args s = true := by
  obtain ⟨mk, methM, hnamed, hmethM, -, -⟩ := Cond.instanceMethod_spec h2
  obtain ⟨c, r, m0, hc, -, hm0, -, k, hk, hni⟩ := Cond.selects_spec h0
  have hfound : s.methodFound? y.cls y.name y.desc = some mk := State.methodFound?_of_named hnamed hy
  have e1 := findClass_of_methodNamed hm0
  rw [hcls] at e1
  have e : mk.cls = m0.cls := Option.some.inj ((findClass_of_methodNamed hnamed).symm.trans e1)
  have hsel : selectMethod {} s.vm c mk = .method mk := selectMethod_private hmethM (Cond.privateMethod_at h1 mk methM hnamed hmethM)
  have hk' : s.vm.classes[mk.cls]? = some k := by rw [e]; exact hk
  simp only [Cond.before, Cond.holds, Cond.value, hc, hfound, hnamed, hsel, hk']
  simp [hni]
set_option maxRecDepth 100000 in
theorem st_str {s : State} {b : Nat} (hgv : (Jvm.Cond.and given_1 narrow_1).before #[Value.ref b] s = true) : ∃ adK adV : Nat → Nat, vk_S 10 strL strB adK adV (st_A s) s s.heap ∧ ∀ i : Nat, i < 10 → (st_tm i).eval #[Value.ref b] s none [] s = some (.ref (adK i)) := by
  refine st_Sof (tm := st_tm) ?_ ?_ ?_ ?_ ?_ ?_ (fun i j hi hj => st_ne i hi j hj) (st_hA s)
  · exact fun i hi => match i, hi with
    | 0, _ => by decide
    | 1, _ => by decide
    | 2, _ => by decide
    | 3, _ => by decide
    | 4, _ => by decide
    | 5, _ => by decide
    | 6, _ => by decide
    | 7, _ => by decide
    | 8, _ => by decide
    | 9, _ => by decide
    | n + 10, h => absurd h (by omega)
  · exact fun i hi => match i, hi with
    | 0, _ => (st_at hgv (i := 376) (by decide +kernel))
    | 1, _ => (st_at hgv (i := 384) (by decide +kernel))
    | 2, _ => (st_at hgv (i := 393) (by decide +kernel))
    | 3, _ => (st_at hgv (i := 402) (by decide +kernel))
    | 4, _ => (st_at hgv (i := 410) (by decide +kernel))
    | 5, _ => (st_at hgv (i := 418) (by decide +kernel))
    | 6, _ => (st_at hgv (i := 631) (by decide +kernel))
    | 7, _ => (st_at hgv (i := 636) (by decide +kernel))
    | 8, _ => (st_at hgv (i := 672) (by decide +kernel))
    | 9, _ => (st_at hgv (i := 681) (by decide +kernel))
    | n + 10, h => absurd h (by omega)
  · exact fun i hi => match i, hi with
    | 0, _ => (st_at hgv (i := 377) (by decide +kernel))
    | 1, _ => (st_at hgv (i := 385) (by decide +kernel))
    | 2, _ => (st_at hgv (i := 394) (by decide +kernel))
    | 3, _ => (st_at hgv (i := 403) (by decide +kernel))
    | 4, _ => (st_at hgv (i := 411) (by decide +kernel))
    | 5, _ => (st_at hgv (i := 419) (by decide +kernel))
    | 6, _ => (st_at hgv (i := 632) (by decide +kernel))
    | 7, _ => (st_at hgv (i := 637) (by decide +kernel))
    | 8, _ => (st_at hgv (i := 673) (by decide +kernel))
    | 9, _ => (st_at hgv (i := 682) (by decide +kernel))
    | n + 10, h => absurd h (by omega)
  · exact fun i hi => match i, hi with
    | 0, _ => (st_at hgv (i := 378) (by decide +kernel))
    | 1, _ => (st_at hgv (i := 386) (by decide +kernel))
    | 2, _ => (st_at hgv (i := 395) (by decide +kernel))
    | 3, _ => (st_at hgv (i := 404) (by decide +kernel))
    | 4, _ => (st_at hgv (i := 412) (by decide +kernel))
    | 5, _ => (st_at hgv (i := 420) (by decide +kernel))
    | 6, _ => (st_at hgv (i := 633) (by decide +kernel))
    | 7, _ => (st_at hgv (i := 638) (by decide +kernel))
    | 8, _ => (st_at hgv (i := 674) (by decide +kernel))
    | 9, _ => (st_at hgv (i := 683) (by decide +kernel))
    | n + 10, h => absurd h (by omega)
  · exact fun i hi => match i, hi with
    | 0, _ => (st_at hgv (i := 379) (by decide +kernel))
    | 1, _ => (st_at hgv (i := 387) (by decide +kernel))
    | 2, _ => (st_at hgv (i := 396) (by decide +kernel))
    | 3, _ => (st_at hgv (i := 405) (by decide +kernel))
    | 4, _ => (st_at hgv (i := 413) (by decide +kernel))
    | 5, _ => (st_at hgv (i := 421) (by decide +kernel))
    | 6, _ => (st_at hgv (i := 634) (by decide +kernel))
    | 7, _ => (st_at hgv (i := 639) (by decide +kernel))
    | 8, _ => (st_at hgv (i := 675) (by decide +kernel))
    | 9, _ => (st_at hgv (i := 684) (by decide +kernel))
    | n + 10, h => absurd h (by omega)
  · exact fun i hi => match i, hi with
    | 0, _ => fun j hj => match j, hj with
      | 0, _ => (st_at hgv (i := 380) (by decide +kernel))
      | 1, _ => (st_at hgv (i := 381) (by decide +kernel))
      | 2, _ => (st_at hgv (i := 382) (by decide +kernel))
      | 3, _ => (st_at hgv (i := 383) (by decide +kernel))
      | n + 4, h => absurd h (Nat.not_lt.mpr (Nat.le_add_left 4 n))
    | 1, _ => fun j hj => match j, hj with
      | 0, _ => (st_at hgv (i := 388) (by decide +kernel))
      | 1, _ => (st_at hgv (i := 389) (by decide +kernel))
      | 2, _ => (st_at hgv (i := 390) (by decide +kernel))
      | 3, _ => (st_at hgv (i := 391) (by decide +kernel))
      | 4, _ => (st_at hgv (i := 392) (by decide +kernel))
      | n + 5, h => absurd h (Nat.not_lt.mpr (Nat.le_add_left 5 n))
    | 2, _ => fun j hj => match j, hj with
      | 0, _ => (st_at hgv (i := 397) (by decide +kernel))
      | 1, _ => (st_at hgv (i := 398) (by decide +kernel))
      | 2, _ => (st_at hgv (i := 399) (by decide +kernel))
      | 3, _ => (st_at hgv (i := 400) (by decide +kernel))
      | 4, _ => (st_at hgv (i := 401) (by decide +kernel))
      | n + 5, h => absurd h (Nat.not_lt.mpr (Nat.le_add_left 5 n))
    | 3, _ => fun j hj => match j, hj with
      | 0, _ => (st_at hgv (i := 406) (by decide +kernel))
      | 1, _ => (st_at hgv (i := 407) (by decide +kernel))
      | 2, _ => (st_at hgv (i := 408) (by decide +kernel))
      | 3, _ => (st_at hgv (i := 409) (by decide +kernel))
      | n + 4, h => absurd h (Nat.not_lt.mpr (Nat.le_add_left 4 n))
    | 4, _ => fun j hj => match j, hj with
      | 0, _ => (st_at hgv (i := 414) (by decide +kernel))
      | 1, _ => (st_at hgv (i := 415) (by decide +kernel))
      | 2, _ => (st_at hgv (i := 416) (by decide +kernel))
      | 3, _ => (st_at hgv (i := 417) (by decide +kernel))
      | n + 4, h => absurd h (Nat.not_lt.mpr (Nat.le_add_left 4 n))
    | 5, _ => fun j hj => match j, hj with
      | 0, _ => (st_at hgv (i := 422) (by decide +kernel))
      | 1, _ => (st_at hgv (i := 423) (by decide +kernel))
      | 2, _ => (st_at hgv (i := 424) (by decide +kernel))
      | 3, _ => (st_at hgv (i := 425) (by decide +kernel))
      | 4, _ => (st_at hgv (i := 426) (by decide +kernel))
      | 5, _ => (st_at hgv (i := 427) (by decide +kernel))
      | 6, _ => (st_at hgv (i := 428) (by decide +kernel))
      | n + 7, h => absurd h (Nat.not_lt.mpr (Nat.le_add_left 7 n))
    | 6, _ => fun j hj => match j, hj with
      | 0, _ => (st_at hgv (i := 635) (by decide +kernel))
      | n + 1, h => absurd h (Nat.not_lt.mpr (Nat.le_add_left 1 n))
    | 7, _ => fun j hj => match j, hj with
      | 0, _ => (st_at hgv (i := 640) (by decide +kernel))
      | n + 1, h => absurd h (Nat.not_lt.mpr (Nat.le_add_left 1 n))
    | 8, _ => fun j hj => match j, hj with
      | 0, _ => (st_at hgv (i := 676) (by decide +kernel))
      | 1, _ => (st_at hgv (i := 677) (by decide +kernel))
      | 2, _ => (st_at hgv (i := 678) (by decide +kernel))
      | 3, _ => (st_at hgv (i := 679) (by decide +kernel))
      | 4, _ => (st_at hgv (i := 680) (by decide +kernel))
      | n + 5, h => absurd h (Nat.not_lt.mpr (Nat.le_add_left 5 n))
    | 9, _ => fun j hj => absurd hj (Nat.not_lt_zero j)
    | n + 10, h => absurd h (by omega)
theorem st_sr {s : State} {b k : Nat} {tx : String} (h1 : (Cond.stringRef "WidowWatch" k tx).before #[Value.ref b] s = true) (h2 : (Cond.exactly (.string "WidowWatch" k) "java/lang/String").before #[Value.ref b] s = true) : ∃ a, vk_R "WidowWatch" k tx a s := by
  obtain ⟨a, c, cA, kA, q1, -⟩ := Cond.exactly_spec (args := #[Value.ref b]) (first := s) (o := none) (s := s) (idx := []) (t := .string "WidowWatch" k) (cls := "java/lang/String") h2
  exact ⟨a, vk_R.of h1 q1⟩
def st_cA (a0 a1 a2 a3 a4 : ClassId) (adK adV : Nat → Nat) (t : Nat) : Nat → ClassId := fun k => match k with
  | 0 => a0
  | 1 => a1
  | 2 => a2
  | 3 => a3
  | 4 => a4
  | k => if k < 200 then adK (k - 100) else if k < 300 then adV (k - 200) else t
theorem st_arr {s : State} {b : Nat} {ty : FieldType} (h : (Cond.arrayClass ty).before #[Value.ref b] s = true) : ∃ c : ClassId, ArrOfT s c ty ∧ s.vm.findClass ("[" ++ ty.toString) = some c := by
  obtain ⟨c, k, comp, h1, h2, h3⟩ := Cond.arrayClass_spec h
  exact ⟨c, fun n z => ⟨fun k h => (by cases h), k, h2, comp, h3⟩, h1⟩
theorem st_arrO {s : State} {b : Nat} {C : String} (h : (Cond.arrayOver (.object C)).before #[Value.ref b] s = true) : ∃ c : ClassId, ArrOfT s c (.object C) ∧ va_RA s c (.object C) := by
  obtain ⟨comp, c, k, h0, -, h2, h3, h1⟩ := Cond.arrayOver_spec h
  exact ⟨c, fun n z => ⟨fun k h => (by cases h), k, h2, comp, h3⟩, k, comp, h2, h3, h0, h1⟩
set_option maxRecDepth 100000 in
set_option maxHeartbeats 4000000 in
theorem st_ev {s : State} {b : Nat} (hts : ∀ w ∈ lw_tbl, w.before #[Value.ref b] s = true) (hgv : (Jvm.Cond.and given_1 narrow_1).before #[Value.ref b] s = true) : ∃ (D : va_G) (cA : Nat → ClassId), EvY D cA (st_A s) s s.heap ∧ FN s := by
  obtain ⟨c0, i0, hk0⟩ := u_known (C := RX0) (T := TX0) (N := 7) (n := 7) hts (fun w hw => W0L (inW_X0 w hw)) (hts _ (T_1 (i := 40) rfl))
  obtain ⟨c1, i1, hk1⟩ := u_known (C := RX1) (T := TX1) (N := 3) (n := 3) hts (fun w hw => W0L (inW_X1 w hw)) (hts _ (T_1 (i := 88) rfl))
  obtain ⟨c2, i2, hk2⟩ := u_known (C := RX2) (T := TX2) (N := 2) (n := 2) hts (fun w hw => W0L (inW_X2 w hw)) (hts _ (T_1 (i := 144) rfl))
  obtain ⟨c3, i3, hk3⟩ := u_known (C := RX3) (T := TX3) (N := 7) (n := 7) hts (fun w hw => W0L (inW_X3 w hw)) (hts _ (T_1 (i := 176) rfl))
  obtain ⟨c4, i4, hk4⟩ := u_known (C := RX4) (T := TX4) (N := 4) (n := 4) hts (fun w hw => W0L (inW_X4 w hw)) (hts _ (T_1 (i := 157) rfl))
  obtain ⟨c5, i5, hk5⟩ := u_known (C := RX5) (T := TX5) (N := 8) (n := 8) hts (fun w hw => W0L (inW_X5 w hw)) (hts _ (T_1 (i := 108) rfl))
  obtain ⟨c6, i6, hk6⟩ := u_known (C := RX6) (T := TX6) (N := 13) (n := 13) hts (fun w hw => W0L (inW_X6 w hw)) (hts _ (T_1 (i := 32) rfl))
  obtain ⟨c7, i7, hk7⟩ := u_known (C := RX7) (T := TX7) (N := 10) (n := 10) hts (fun w hw => W0L (inW_X7 w hw)) (hts _ (T_2 (i := 55) rfl))
  obtain ⟨c8, i8, hk8⟩ := u_known (C := RX8) (T := TX8) (N := 4) (n := 4) hts (fun w hw => W0L (inW_X8 w hw)) (hts _ (T_2 (i := 117) rfl))
  obtain ⟨c9, i9, hk9⟩ := u_known (C := RX9) (T := TX9) (N := 3) (n := 3) hts (fun w hw => W0L (inW_X9 w hw)) (hts _ (T_6 (i := 86) rfl))
  obtain ⟨c10, i10, hk10⟩ := u_known (C := RX10) (T := TX10) (N := 1) (n := 1) hts (fun w hw => W0L (inW_X10 w hw)) (hts _ (T_2 (i := 158) rfl))
  obtain ⟨c11, i11, hk11⟩ := u_known (C := RJ0) (T := TJ0) (N := 4) (n := 4) hts (fun w hw => W0L (inW_J0 w hw)) (hts _ (T_5 (i := 194) rfl))
  obtain ⟨c12, i12, hk12⟩ := u_known (C := RJ4) (T := TJ4) (N := 4) (n := 4) hts (fun w hw => W0L (inW_J4 w hw)) (hts _ (T_5 (i := 59) rfl))
  obtain ⟨a0, r0, n0⟩ := st_arr (hts _ (T_1 (i := 86) rfl))
  obtain ⟨a1, r1, n1⟩ := st_arrO (hts _ (T_1 (i := 94) rfl))
  obtain ⟨a2, r2, n2⟩ := st_arrO (hts _ (T_2 (i := 61) rfl))
  obtain ⟨a3, r3, n3⟩ := st_arrO (hts _ (T_6 (i := 166) rfl))
  obtain ⟨a4, r4, n4⟩ := st_arr (hts _ (T_3 (i := 8) rfl))
  obtain ⟨adK, adV, hS, hev⟩ := st_str hgv
  obtain ⟨t, ht, hT⟩ := va_Tof (tm := .static "WidowWatch" "USUAL_COSTS" "[I") (ty := .int) (N := 6) (f := fun j => .int (usual.getD j 0)) (A := st_A s) (by decide) (st_at hgv (i := 5) (by decide +kernel)) (va_eqt (st_at hgv (i := 6) (by decide +kernel))) (fun j hj => match j, hj with
    | 0, _ => va_eqt (st_at hgv (i := 7) (by decide +kernel))
    | 1, _ => va_eqt (st_at hgv (i := 8) (by decide +kernel))
    | 2, _ => va_eqt (st_at hgv (i := 9) (by decide +kernel))
    | 3, _ => va_eqt (st_at hgv (i := 10) (by decide +kernel))
    | 4, _ => va_eqt (st_at hgv (i := 11) (by decide +kernel))
    | 5, _ => va_eqt (st_at hgv (i := 12) (by decide +kernel))
    | n + 6, h => absurd h (by omega)) (st_hA s)
  have e1 : ∀ i : Nat, i < 10 → st_cA a0 a1 a2 a3 a4 adK adV t (100 + i) = adK i := fun i hi => match i, hi with
    | 0, _ => rfl
    | 1, _ => rfl
    | 2, _ => rfl
    | 3, _ => rfl
    | 4, _ => rfl
    | 5, _ => rfl
    | 6, _ => rfl
    | 7, _ => rfl
    | 8, _ => rfl
    | 9, _ => rfl
    | n + 10, h => absurd h (by omega)
  have e2 : ∀ i : Nat, i < 10 → st_cA a0 a1 a2 a3 a4 adK adV t (200 + i) = adV i := fun i hi => match i, hi with
    | 0, _ => rfl
    | 1, _ => rfl
    | 2, _ => rfl
    | 3, _ => rfl
    | 4, _ => rfl
    | 5, _ => rfl
    | 6, _ => rfl
    | 7, _ => rfl
    | 8, _ => rfl
    | 9, _ => rfl
    | n + 10, h => absurd h (by omega)
  refine ⟨(fun k => match k with | 0 => c0 | 1 => c1 | 2 => c2 | 3 => c3 | 4 => c4 | 5 => c5 | 6 => c6 | 7 => c7 | 8 => c8 | 9 => c9 | 10 => c10 | 11 => c11 | _ => c12, fun k => match k with | 0 => i0 | 1 => i1 | 2 => i2 | 3 => i3 | 4 => i4 | 5 => i5 | 6 => i6 | 7 => i7 | 8 => i8 | 9 => i9 | 10 => i10 | 11 => i11 | _ => i12), st_cA a0 a1 a2 a3 a4 adK adV t, ⟨⟨⟨⟨?_, ?_⟩, ?_, ?_, ?_, ⟨?_, ?_⟩, ?_, ?_, ?_, hT⟩, ?_, ?_, ?_, ?_, ?_⟩, ?_⟩, ?_⟩
  · intro k q hq
    match k, hq with
    | 0, hq => cases hq; exact hk0
    | 1, hq => cases hq; exact hk1
    | 2, hq => cases hq; exact hk2
    | 3, hq => cases hq; exact hk3
    | 4, hq => cases hq; exact hk4
    | 5, hq => cases hq; exact hk5
    | 6, hq => cases hq; exact hk6
    | 7, hq => cases hq; exact hk7
    | 8, hq => cases hq; exact hk8
    | 9, hq => cases hq; exact hk9
    | 10, hq => cases hq; exact hk10
    | 11, hq => cases hq; exact hk11
    | 12, hq => cases hq; exact hk12
    | n + 13, hq => simp [vwCl] at hq
  · intro k q hq
    match k, hq with
    | 0, hq => cases hq; exact ⟨r0, n0⟩
    | 1, hq => cases hq; exact ⟨r1, n1⟩
    | 2, hq => cases hq; exact ⟨r2, n2⟩
    | 3, hq => cases hq; exact ⟨r3, n3⟩
    | 4, hq => cases hq; exact ⟨r4, n4⟩
    | n + 5, hq => simp [kT] at hq
  · exact List.forall_mem_cons.mpr ⟨va_Nw.of rfl (hts _ (T_1 (i := 51) rfl)), List.forall_mem_cons.mpr ⟨va_Nw.of rfl (hts _ (T_1 (i := 109) rfl)), List.forall_mem_cons.mpr ⟨va_Nw.of rfl (hts _ (T_1 (i := 145) rfl)), List.forall_mem_cons.mpr ⟨va_Nw.of rfl (hts _ (T_1 (i := 158) rfl)), List.forall_mem_cons.mpr ⟨va_Nw.of rfl (hts _ (T_1 (i := 177) rfl)), List.forall_mem_cons.mpr ⟨va_Nw.of rfl (hts _ (T_4 (i := 2) rfl)), List.forall_mem_cons.mpr ⟨va_Nw.of rfl (hts _ (T_2 (i := 44) rfl)), List.forall_mem_cons.mpr ⟨va_Nw.of rfl (hts _ (T_3 (i := 217) rfl)), List.forall_mem_cons.mpr ⟨va_Nw.of rfl (hts _ (T_4 (i := 32) rfl)), List.forall_mem_cons.mpr ⟨va_Nw.of rfl (hts _ (T_4 (i := 63) rfl)), List.forall_mem_cons.mpr ⟨va_Nw.of rfl (hts _ (T_4 (i := 68) rfl)), List.forall_mem_cons.mpr ⟨va_Nw.of rfl (hts _ (T_2 (i := 51) rfl)), List.forall_mem_cons.mpr ⟨va_Nw.of rfl (hts _ (T_3 (i := 27) rfl)), List.forall_mem_cons.mpr ⟨va_Nw.of rfl (hts _ (T_3 (i := 111) rfl)), List.forall_mem_cons.mpr ⟨va_Nw.of rfl (hts _ (T_2 (i := 56) rfl)), List.forall_mem_cons.mpr ⟨va_Nw.of rfl (hts _ (T_2 (i := 156) rfl)), List.forall_mem_cons.mpr ⟨va_Nw.of rfl (hts _ (T_6 (i := 129) rfl)), List.forall_mem_cons.mpr ⟨va_Nw.of rfl (hts _ (T_6 (i := 87) rfl)), fun _ h => absurd h List.not_mem_nil⟩⟩⟩⟩⟩⟩⟩⟩⟩⟩⟩⟩⟩⟩⟩⟩⟩⟩
  · exact List.forall_mem_cons.mpr ⟨vk_R.of (hts _ (T_3 (i := 18) rfl)) (hev 0 (by decide)), List.forall_mem_cons.mpr ⟨vk_R.of (hts _ (T_3 (i := 102) rfl)) (hev 1 (by decide)), List.forall_mem_cons.mpr ⟨vk_R.of (hts _ (T_3 (i := 112) rfl)) (hev 2 (by decide)), List.forall_mem_cons.mpr ⟨vk_R.of (hts _ (T_3 (i := 117) rfl)) (hev 3 (by decide)), List.forall_mem_cons.mpr ⟨vk_R.of (hts _ (T_3 (i := 122) rfl)) (hev 4 (by decide)), List.forall_mem_cons.mpr ⟨vk_R.of (hts _ (T_3 (i := 148) rfl)) (hev 5 (by decide)), List.forall_mem_cons.mpr ⟨vk_R.of (hts _ (T_5 (i := 28) rfl)) (va_eqR (st_at hgv (i := 630) (by decide +kernel)) (hev 0 (by decide))), List.forall_mem_cons.mpr ⟨vk_R.of (hts _ (T_6 (i := 38) rfl)) (va_eqR (st_at hgv (i := 701) (by decide +kernel)) (hev 1 (by decide))), List.forall_mem_cons.mpr ⟨vk_R.of (hts _ (T_5 (i := 57) rfl)) (va_eqR (st_at hgv (i := 650) (by decide +kernel)) (hev 2 (by decide))), List.forall_mem_cons.mpr ⟨vk_R.of (hts _ (T_5 (i := 89) rfl)) (va_eqR (st_at hgv (i := 671) (by decide +kernel)) (hev 3 (by decide))), List.forall_mem_cons.mpr ⟨vk_R.of (hts _ (T_5 (i := 88) rfl)) (va_eqR (st_at hgv (i := 662) (by decide +kernel)) (hev 5 (by decide))), List.forall_mem_cons.mpr ⟨vk_R.of (hts _ (T_5 (i := 52) rfl)) (hev 6 (by decide)), List.forall_mem_cons.mpr ⟨vk_R.of (hts _ (T_5 (i := 56) rfl)) (hev 7 (by decide)), List.forall_mem_cons.mpr ⟨vk_R.of (hts _ (T_5 (i := 187) rfl)) (hev 8 (by decide)), List.forall_mem_cons.mpr ⟨vk_R.of (hts _ (T_5 (i := 188) rfl)) (hev 9 (by decide)), fun _ h => absurd h List.not_mem_nil⟩⟩⟩⟩⟩⟩⟩⟩⟩⟩⟩⟩⟩⟩⟩
  · exact va_Nw.of rfl (hts _ (T_1 (i := 49) rfl))
  · intro i hi
    have h := hS.1 i hi
    rw [← e1 i hi, ← e2 i hi] at h
    exact h
  · intro i j hi hj e
    exact hS.2 i j hi hj (by rw [← e1 i hi, ← e1 j hj]; exact e)
  · exact va_Zof (hts _ (T_3 (i := 40) rfl)) (hts _ (T_1 (i := 18) rfl)) (va_eqt (st_at hgv (i := 15) (by decide +kernel))) (st_hA s)
  · exact va_Zqof (hts _ (T_3 (i := 56) rfl)) (hts _ (T_1 (i := 20) rfl)) (st_at hgv (i := 16) (by decide +kernel)) (st_hA s)
  · exact va_Zof (hts _ (T_1 (i := 50) rfl)) (hts _ (T_1 (i := 1) rfl)) ht (st_hA s)
  · exact List.forall_mem_cons.mpr ⟨st_sr (hts _ (T_2 (i := 222) rfl)) (st_at hgv (i := 341) (by decide +kernel)), List.forall_mem_cons.mpr ⟨st_sr (hts _ (T_3 (i := 233) rfl)) (st_at hgv (i := 501) (by decide +kernel)), List.forall_mem_cons.mpr ⟨st_sr (hts _ (T_3 (i := 178) rfl)) (st_at hgv (i := 429) (by decide +kernel)), List.forall_mem_cons.mpr ⟨st_sr (hts _ (T_3 (i := 195) rfl)) (st_at hgv (i := 450) (by decide +kernel)), List.forall_mem_cons.mpr ⟨st_sr (hts _ (T_3 (i := 212) rfl)) (st_at hgv (i := 466) (by decide +kernel)), List.forall_mem_cons.mpr ⟨st_sr (hts _ (T_3 (i := 218) rfl)) (st_at hgv (i := 485) (by decide +kernel)), List.forall_mem_cons.mpr ⟨st_sr (hts _ (T_4 (i := 149) rfl)) (st_at hgv (i := 519) (by decide +kernel)), List.forall_mem_cons.mpr ⟨st_sr (hts _ (T_4 (i := 205) rfl)) (st_at hgv (i := 535) (by decide +kernel)), List.forall_mem_cons.mpr ⟨st_sr (hts _ (T_4 (i := 215) rfl)) (st_at hgv (i := 566) (by decide +kernel)), List.forall_mem_cons.mpr ⟨st_sr (hts _ (T_5 (i := 3) rfl)) (st_at hgv (i := 593) (by decide +kernel)), fun _ h => absurd h List.not_mem_nil⟩⟩⟩⟩⟩⟩⟩⟩⟩⟩
  · exact List.forall_mem_cons.mpr ⟨va_Nw.of rfl (hts _ (T_2 (i := 184) rfl)), List.forall_mem_cons.mpr ⟨va_Nw.of rfl (hts _ (T_2 (i := 186) rfl)), List.forall_mem_cons.mpr ⟨va_Nw.of rfl (hts _ (T_2 (i := 188) rfl)), fun _ h => absurd h List.not_mem_nil⟩⟩⟩
  · exact List.forall_mem_cons.mpr ⟨va_Nw.of rfl (hts _ (T_2 (i := 182) rfl)), List.forall_mem_cons.mpr ⟨va_Nw.of rfl (hts _ (T_3 (i := 171) rfl)), List.forall_mem_cons.mpr ⟨va_Nw.of rfl (hts _ (T_3 (i := 188) rfl)), List.forall_mem_cons.mpr ⟨va_Nw.of rfl (hts _ (T_4 (i := 208) rfl)), fun _ h => absurd h List.not_mem_nil⟩⟩⟩⟩
  · exact vx_Zqof (hts _ (T_2 (i := 207) rfl)) (hts _ (T_1 (i := 11) rfl)) (st_at hgv (i := 13) (by decide +kernel)) (st_hA s)
  · exact vx_Zqof (hts _ (T_2 (i := 209) rfl)) (hts _ (T_1 (i := 11) rfl)) (st_at hgv (i := 14) (by decide +kernel)) (st_hA s)
  · exact List.forall_mem_cons.mpr ⟨va_Nc.of (st_at hgv (i := 252) (by decide +kernel)), List.forall_mem_cons.mpr ⟨va_Nc.of (st_at hgv (i := 257) (by decide +kernel)), List.forall_mem_cons.mpr ⟨va_Nc.of (st_at hgv (i := 241) (by decide +kernel)), List.forall_mem_cons.mpr ⟨va_Nc.of (st_at hgv (i := 237) (by decide +kernel)), List.forall_mem_cons.mpr ⟨va_Nc.of (st_at hgv (i := 253) (by decide +kernel)), fun _ h => absurd h List.not_mem_nil⟩⟩⟩⟩⟩
  · exact ⟨va_AO.of (hts _ (T_1 (i := 94) rfl)), va_AO.of (hts _ (T_2 (i := 61) rfl)), va_AO.of (hts _ (T_6 (i := 166) rfl)), va_Nw.of rfl (hts _ (T_2 (i := 110) rfl)), List.forall_mem_cons.mpr ⟨va_Nw.of rfl (st_selP (hts _ (T_5 (i := 135) rfl)) (hts _ (T_5 (i := 102) rfl)) (hts _ (T_5 (i := 103) rfl)) rfl (by decide +kernel)), List.forall_mem_cons.mpr ⟨va_Nw.of rfl (st_selP (hts _ (T_5 (i := 135) rfl)) (hts _ (T_5 (i := 154) rfl)) (hts _ (T_5 (i := 155) rfl)) rfl (by decide +kernel)), List.forall_mem_cons.mpr ⟨va_Nw.of rfl (st_selP (hts _ (T_5 (i := 135) rfl)) (hts _ (T_5 (i := 158) rfl)) (hts _ (T_5 (i := 159) rfl)) rfl (by decide +kernel)), fun _ h => absurd h List.not_mem_nil⟩⟩⟩⟩
