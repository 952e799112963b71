/-! 'new int[16][3][31][41]', and two dimensions, as rows over the K judgement -/
abbrev mkI1 (c1 : ClassId) : State → State := fun s => s.pushCell (Jvm.Free.Multi.innerC c1 41 (.int 0))
abbrev mkI2 (c2 c1 : ClassId) : State → State := fun s => mkF (mkI1 c1) c2 31 1 s 31
abbrev mkI3 (c3 c2 c1 : ClassId) : State → State := fun s => mkF (mkI2 c2 c1) c3 3 32 s 3
abbrev mkI4 (c4 c3 c2 c1 : ClassId) : State → State := fun s => mkF (mkI3 c3 c2 c1) c4 16 97 s 16
theorem mkA_I1 (c1 : ClassId) : MkA (mkI1 c1) 1 41 := mkA_1 c1 41
theorem mkA_I2 (c2 c1 : ClassId) : MkA (mkI2 c2 c1) 32 1302 := (mkA_I1 c1).up c2 31
theorem mkA_I3 (c3 c2 c1 : ClassId) : MkA (mkI3 c3 c2 c1) 97 3909 := (mkA_I2 c2 c1).up c3 3
theorem mkA_I4 (c4 c3 c2 c1 : ClassId) : MkA (mkI4 c4 c3 c2 c1) 1553 62560 := (mkA_I3 c3 c2 c1).up c4 16
theorem mkS_I2 (c2 c1 : ClassId) : MkS (mkI2 c2 c1) 32 1302 := MkS.up (mkA_I1 c1) (mkS_1 c1 41) c2 31
theorem mkS_I3 (c3 c2 c1 : ClassId) : MkS (mkI3 c3 c2 c1) 97 3909 := MkS.up (mkA_I2 c2 c1) (mkS_I2 c2 c1) c3 3
theorem mkS_I4 (c4 c3 c2 c1 : ClassId) : MkS (mkI4 c4 c3 c2 c1) 1553 62560 := MkS.up (mkA_I3 c3 c2 c1) (mkS_I3 c3 c2 c1) c4 16
def mkV4 (c4 c3 c2 c1 : ClassId) (vm : Vm) : Prop := (((∃ (k : Class) (cc : ClassId), vm.classes[c1]? = some k ∧ k.kind = .array cc .int) ∧ ∃ (k : Class) (t0 : FieldType), vm.classes[c2]? = some k ∧ k.kind = .array c1 (.array t0)) ∧ ∃ (k : Class) (t0 : FieldType), vm.classes[c3]? = some k ∧ k.kind = .array c2 (.array t0)) ∧ ∃ (k : Class) (t0 : FieldType), vm.classes[c4]? = some k ∧ k.kind = .array c3 (.array t0)
theorem mkW_I4 (e : Env) (c4 c3 c2 c1 : ClassId) (h1 : ¬ 41 > e.platform.arrayLengthLimit) (h2 : ¬ 41 * 4 > e.platform.maxHeapBytes) : MkW e (mkV4 c4 c3 c2 c1) (mkI4 c4 c3 c2 c1) c4 [16, 3, 31, 41] 1553 62560 :=
  MkW.up (N := 16) (by decide) (mkA_I3 c3 c2 c1) (MkW.up (N := 3) (by decide) (mkA_I2 c2 c1) (MkW.up (N := 31) (by decide) (mkA_I1 c1) (mkW_1 e c1 (M := 41) (by decide) (by decide) h1 h2) (by decide) (by decide) (by omega) (by omega)) (by decide) (by decide) (by omega) (by omega)) (by decide) (by decide) (by omega) (by omega)
theorem mkV4_of {s : State} {c4 c3 c2 c1 : ClassId} (hF : FN s) (harr : (Cond.arrayClass .int).before #[] s = true) (h4 : s.vm.findClass "[[[[I" = some c4) (h3 : s.vm.findClass "[[[I" = some c3) (h2 : s.vm.findClass "[[I" = some c2) (h1 : s.vm.findClass "[I" = some c1) : mkV4 c4 c3 c2 c1 s.vm := by
  obtain ⟨m4, d4, k4, a4, -, b4, e4, n4⟩ := arrayOverA_spec hF.2.2.2
  obtain ⟨m3, d3, k3, a3, -, b3, e3, n3⟩ := arrayOverA_spec hF.2.2.1
  obtain ⟨m2, d2, k2, a2, -, b2, e2, n2⟩ := arrayOverA_spec hF.2.1
  obtain ⟨d1, k1, cc, n1, b1, e1⟩ := Cond.arrayClass_spec harr
  cases Option.some.inj (h4.symm.trans n4)
  cases Option.some.inj (h3.symm.trans n3)
  cases Option.some.inj (h2.symm.trans n2)
  cases Option.some.inj (h1.symm.trans n1)
  cases Option.some.inj (h3.symm.trans a4)
  cases Option.some.inj (h2.symm.trans a3)
  cases Option.some.inj (h1.symm.trans a2)
  exact ⟨⟨⟨⟨k1, cc, b1, e1⟩, k2, _, b2, e2⟩, k3, _, b3, e3⟩, k4, _, b4, e4⟩
theorem mkV4.alike {c4 c3 c2 c1 : ClassId} {v w : Vm} (hal : v.Alike w) (h : mkV4 c4 c3 c2 c1 v) : mkV4 c4 c3 c2 c1 w := by
  obtain ⟨⟨⟨⟨k1, cc, b1, e1⟩, k2, t2, b2, e2⟩, k3, t3, b3, e3⟩, k4, t4, b4, e4⟩ := h
  obtain ⟨q1, f1, g1⟩ := hal.2.2 _ _ b1
  obtain ⟨q2, f2, g2⟩ := hal.2.2 _ _ b2
  obtain ⟨q3, f3, g3⟩ := hal.2.2 _ _ b3
  obtain ⟨q4, f4, g4⟩ := hal.2.2 _ _ b4
  exact ⟨⟨⟨⟨q1, cc, f1, by rw [g1]; exact e1⟩, q2, t2, f2, by rw [g2]; exact e2⟩, q3, t3, f3, by rw [g3]; exact e3⟩, q4, t4, f4, by rw [g4]; exact e4⟩
section MN
variable {p : Program} {l : Launch} {e : Env} {R : Room} {s : State} {m : MethodId} {args : Array Value} {below : List Frame} {meth : Method} {c : Code} {T : State} {locs : List Loc} {cells slots : Nat}
set_option maxHeartbeats 1000000 in
theorem mna4_step (X : Stand p l e R s m args below meth c T locs cells slots) (hexec : p.tables.exec = Jvm.exec) {own : String} {index : Nat}
    (hown : s.vm.findClass own = some m.cls) (hclink : (Cond.classLink own index "[[[[I").before args s = true) (hF : FN s) (harr : (Cond.arrayClass .int).before #[] s = true)
    {c4 c3 c2 c1 : ClassId} (h4 : s.vm.findClass "[[[[I" = some c4) (h3 : s.vm.findClass "[[[I" = some c3) (h2 : s.vm.findClass "[[I" = some c2) (h1 : s.vm.findClass "[I" = some c1)
    {g : JFrame} (hg : g.method = m) (hdg : decode c.code g.pc = .ok (.multianewarray index 4, 4)) {rest : List Value} (hstack : g.stack = .int 41 :: .int 31 :: .int 3 :: .int 16 :: rest)
    (hcells : cells + 1553 ≤ R.cells) (hslots : slots + 62560 ≤ R.slots) :
    ∃ vm₁ : Vm, Stand p l e R s m args below meth c (mkI4 c4 c3 c2 c1 (T.setVm vm₁)) locs (cells + 1553) (slots + 62560) ∧
      ∀ target, Steps p.tables e below ((mkI4 c4 c3 c2 c1 (T.setVm vm₁)).setTop { g with pc := g.pc + 4, stack := .ref T.heap.size :: rest }) target → Steps p.tables e below (T.setTop g) target := by
  subst hg
  have hpl : e.platform.magicAccessors = ({} : Platform).magicAccessors := by rw [X.admits.platform]
  obtain ⟨c0, hfc0, hcl⟩ := Cond.classLink_spec hown hclink e.platform hpl
  cases Option.some.inj (h4.symm.trans hfc0)
  obtain ⟨hg₁, hwarm₁, hready₁⟩ := State.classEntry (e := e) X.warmed hcl
  generalize T.vm.noted g.method.cls index (.cls c4) = vm₁ at hg₁ hwarm₁ hready₁
  have hV : mkV4 c4 c3 c2 c1 vm₁ := (mkV4_of hF harr h4 h3 h2 h1).alike hwarm₁.alike
  have X₁ := X.noted hwarm₁
  obtain ⟨hr1, hr2⟩ := X.roomAbove hcells hslots
  have XF := mkS_I4 c4 c3 c2 c1 X₁
  refine ⟨vm₁, XF, fun target hrest => ?_⟩
  have hl : ¬ 41 > e.platform.arrayLengthLimit := by rw [Launch.admits_arrayLengthLimit X.admits]; omega
  have hh : ¬ 41 * 4 > e.platform.maxHeapBytes := by rw [Launch.admits_maxHeapBytes X.admits]; omega
  jvm_step X.here [hexec, hdg]
  simp only [multianewarray.sem, wp_bind', Jvm.W.resolveClassAt_links (State.method?_setTop g X.here.top) hg₁]
  rw [Jvm.W.popN, if_neg (by decide)]
  refine ⟨g, State.topJava?_setTop' (s := T.setVm vm₁) g X.here.top, [.int 16, .int 3, .int 31, .int 41], rest, rfl, hstack, ?_⟩
  simp only [List.mapM_cons, List.mapM_nil, wp_bind', wp_pure']
  refine mkW_I4 e c4 c3 c2 c1 hl hh _ _ _ _ _ (by exact hV) (by show T.heap.size + _ ≤ _; omega) (by show T.slotsUsed + _ ≤ _; omega) (fun d' acts' => ?_)
  have eS : ((T.setTop g).setVm vm₁).setTop { g with stack := rest } = (T.setVm vm₁).setTop { g with stack := rest } := by
    show ((T.setVm vm₁).setTop g).setTop _ = _
    rw [State.setTop_setTop]
  rw [eS, (mkA_I4 c4 c3 c2 c1 _).2.2.2.2]
  simp only [wp_bind', Jvm.W.mark, Jvm.W.pushRef, State.topJava?_setTop' _ XF.here.top, Option.some.injEq, exists_eq_left', State.setTop_setTop, State.heap_setTop]
  intro acts
  simp [jvm, XF.here.top]
  exact hrest
end MN
/-- what lies where, behind it -/
theorem mk4_cells {c4 c3 c2 c1 : ClassId} (s : State) {q : Nat} (hq : s.heap.size = q) : (mkI4 c4 c3 c2 c1 s).heap[q]? = some (mkO c4 16 q 97 16) ∧ (∀ i, i < 16 → (mkI4 c4 c3 c2 c1 s).heap[q + 1 + i * 97]? = some (mkO c3 3 (q + 1 + i * 97) 32 3)) ∧ (∀ i j, i < 16 → j < 3 → (mkI4 c4 c3 c2 c1 s).heap[q + 1 + i * 97 + 1 + j * 32]? = some (mkO c2 31 (q + 1 + i * 97 + 1 + j * 32) 1 31)) ∧ ∀ i j k, i < 16 → j < 3 → k < 31 → (mkI4 c4 c3 c2 c1 s).heap[q + 1 + i * 97 + 1 + j * 32 + 1 + k]? = some (Jvm.Free.Multi.innerC c1 41 (.int 0)) := by
  subst hq
  have A1 := mkA_I1 c1
  have A2 := mkA_I2 c2 c1
  have A3 := mkA_I3 c3 c2 c1
  have hz : ∀ i : Nat, (mkF (mkI3 c3 c2 c1) c4 16 97 s i).heap.size = s.heap.size + 1 + i * 97 := fun i => (mkF_facts A3 c4 16 s i).1
  refine ⟨(mkF_facts A3 c4 16 s 16).2.1, fun i hi => ?_, fun i j hi hj => ?_, fun i j k hi hj hk => ?_⟩
  · show (mkF (mkI3 c3 c2 c1) c4 16 97 s 16).heap[_]? = _
    rw [mkF_in A3 c4 16 s (j := i) (by omega) (by omega) 16 hi]
    have := (mkF_facts A2 c3 3 (mkF (mkI3 c3 c2 c1) c4 16 97 s i) 3).2.1
    rw [hz] at this
    exact this
  · show (mkF (mkI3 c3 c2 c1) c4 16 97 s 16).heap[_]? = _
    rw [mkF_in A3 c4 16 s (j := i) (by omega) (by omega) 16 hi]
    generalize hT : mkF (mkI3 c3 c2 c1) c4 16 97 s i = T
    have hTz : T.heap.size = s.heap.size + 1 + i * 97 := by rw [← hT]; exact hz i
    show (mkF (mkI2 c2 c1) c3 3 32 T 3).heap[_]? = _
    rw [mkF_in A2 c3 3 T (j := j) (by omega) (by omega) 3 hj]
    have h0 := (mkF_facts A2 c3 3 T j).1
    have := (mkF_facts A1 c2 31 (mkF (mkI2 c2 c1) c3 3 32 T j) 31).2.1
    rw [h0, hTz] at this
    exact this
  · show (mkF (mkI3 c3 c2 c1) c4 16 97 s 16).heap[_]? = _
    rw [mkF_in A3 c4 16 s (j := i) (by omega) (by omega) 16 hi]
    generalize hT : mkF (mkI3 c3 c2 c1) c4 16 97 s i = T
    have hTz : T.heap.size = s.heap.size + 1 + i * 97 := by rw [← hT]; exact hz i
    show (mkF (mkI2 c2 c1) c3 3 32 T 3).heap[_]? = _
    rw [mkF_in A2 c3 3 T (j := j) (by omega) (by omega) 3 hj]
    generalize hU : mkF (mkI2 c2 c1) c3 3 32 T j = U
    have hUz : U.heap.size = s.heap.size + 1 + i * 97 + 1 + j * 32 := by rw [← hU, (mkF_facts A2 c3 3 T j).1, hTz]
    show (mkF (mkI1 c1) c2 31 1 U 31).heap[_]? = _
    rw [mkF_in A1 c2 31 U (j := k) (by omega) (by omega) 31 hk]
    have hz1 := (mkF_facts A1 c2 31 U k).1
    generalize hV : mkF (mkI1 c1) c2 31 1 U k = V at hz1
    have : s.heap.size + 1 + i * 97 + 1 + j * 32 + 1 + k = V.heap.size := by rw [hz1, hUz]; omega
    rw [this]
    exact State.heap_pushCell_size _ _
