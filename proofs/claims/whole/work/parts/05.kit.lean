/-! THE K JUDGEMENT: a method's walk, with the heap, the frame and the locals' array out of sight: a world (a list of cells), a place, the locals that are known, the stack. -/
/-- the arrays' classes: ints, books, rows of ints .., longs -/
abbrev kT (cA : Nat → ClassId) : List (ClassId × FieldType) := [(cA 0, .int), (cA 1, .object "WidowWatch$Book"), (cA 2, .array .int), (cA 3, .array (.array .int)), (cA 4, .array (.array (.array .int))), (cA 5, .long)]
/-- the private methods of nest mates that are called -/
def kN : List (String × Nat × MethodName × String) := [("WidowWatch$Book", 40, ⟨"WidowWatch", "copyRow", "([I[I)V"⟩, "WidowWatch"), ("WidowWatch", 36, ⟨"WidowWatch$Reader", "<init>", "()V"⟩, "WidowWatch"), ("WidowWatch", 43, ⟨"WidowWatch$Lines", "<init>", "()V"⟩, "WidowWatch"), ("WidowWatch", 50, ⟨"WidowWatch$Planner", "<init>", "()V"⟩, "WidowWatch"), ("WidowWatch", 57, ⟨"WidowWatch$Plan", "<init>", "()V"⟩, "WidowWatch"), ("WidowWatch$Planner", 33, ⟨"WidowWatch", "put", "([III)V"⟩, "WidowWatch"), ("WidowWatch$Book", 61, ⟨"WidowWatch", "get", "([II)I"⟩, "WidowWatch"), ("WidowWatch$Lines", 18, ⟨"WidowWatch", "get", "([II)I"⟩, "WidowWatch"), ("WidowWatch$Planner", 50, ⟨"WidowWatch", "get", "([II)I"⟩, "WidowWatch"), ("WidowWatch$Plan", 42, ⟨"WidowWatch", "get", "([II)I"⟩, "WidowWatch"), ("WidowWatch$Plan", 34, ⟨"WidowWatch", "put", "([III)V"⟩, "WidowWatch"), ("WidowWatch$Lines", 43, ⟨"WidowWatch", "put", "([III)V"⟩, "WidowWatch"), ("WidowWatch$Reader", 124, ⟨"WidowWatch", "get", "([II)I"⟩, "WidowWatch"), ("WidowWatch$Book", 65, ⟨"WidowWatch", "put", "([III)V"⟩, "WidowWatch")]
/-- the String constants that are compared: whose, its place, its text, its number -/
def kSt : List (String × Nat × String × Nat) := [("WidowWatch$Reader", 55, "book", 0), ("WidowWatch$Reader", 81, "costs", 1), ("WidowWatch$Reader", 87, "limit", 2), ("WidowWatch$Reader", 92, "para", 3), ("WidowWatch$Reader", 108, "page", 4), ("WidowWatch$Reader", 98, "heading", 5), ("WidowWatchModel", 164, "book", 0), ("WidowWatchModel", 141, "costs", 1), ("WidowWatchModel", 146, "limit", 2), ("WidowWatchModel", 148, "para", 3), ("WidowWatchModel", 132, "page", 4), ("WidowWatchModel", 154, "heading", 5)]
def strL : List Nat := [4, 5, 5, 4, 4, 7]
def strB : List (List Int32) := [[98, 111, 111, 107], [99, 111, 115, 116, 115], [108, 105, 109, 105, 116], [112, 97, 114, 97], [112, 97, 103, 101], [104, 101, 97, 100, 105, 110, 103]]
/-- the usual costs, as the class's static row has them -/
def usual : List Int32 := [1, 1, 2, 20, 10, 30]
/-- what the machine holds beside a method's world, out of its reach -/
def Es (cA : Nat → ClassId) (A : Nat → Prop) (U : State) (H : Heap) : Prop := vk_S 6 strL strB (fun i => cA (100 + i)) (fun i => cA (200 + i)) A U H ∧ va_Z "java/lang/String" "COMPACT_STRINGS" "Z" (.int 1) A U H ∧ va_Zq "jdk/internal/util/Preconditions" "SIOOBE_FORMATTER" "Ljava/util/function/BiFunction;" A U H ∧ va_Z "WidowWatch" "USUAL_COSTS" "[I" (.ref (cA 300)) A U H ∧ va_T .int (cA 300) 6 (fun j => .int (usual.getD j 0)) A U H
/-- what a method takes of the machine beside its world -/
def Ev (D : va_G) (cA : Nat → ClassId) (A : Nat → Prop) (U : State) (H : Heap) : Prop := va_K D vwCl (kT cA) U ∧ (∀ q ∈ kN, va_Nw (.methodLinkNest q.1 q.2.1 q.2.2.1 q.2.2.2) U) ∧ (∀ q ∈ kSt, vk_R q.1 q.2.1 q.2.2.1 (cA (100 + q.2.2.2)) U) ∧ va_Nw (.fieldLinkNest "WidowWatch$Book" 37 "WidowWatch" "USUAL_COSTS" "[I" "WidowWatch") U ∧ Es cA A U H
theorem Ev.calling {D : va_G} {cA : Nat → ClassId} {A : Nat → Prop} {U : State} {H : Heap} (h : Ev D cA A U H) (g : JFrame) (mk : MethodId) (a : Array Value) : Ev D cA A (U.calling g mk a) H :=
  ⟨va_K.moved (u := U) (U := U.calling g mk a) (Vm.Alike.refl U.vm) h.1, fun q hq => va_Nw.same rfl (u := U) rfl (h.2.1 q hq), fun q hq => vk_R.same rfl (h.2.2.1 q hq), va_Nw.same rfl (u := U) rfl h.2.2.2.1,
    vk_S.moved (u := U) (U := U.calling g mk a) (Vm.Alike.refl U.vm) h.2.2.2.2.1, va_Z.moved (u := U) (U := U.calling g mk a) (Vm.Alike.refl U.vm) h.2.2.2.2.2.1, va_Zq.moved (u := U) (U := U.calling g mk a) (Vm.Alike.refl U.vm) h.2.2.2.2.2.2.1, va_Z.moved (u := U) (U := U.calling g mk a) (Vm.Alike.refl U.vm) h.2.2.2.2.2.2.2.1, va_T.moved (u := U) (U := U.calling g mk a) (Vm.Alike.refl U.vm) h.2.2.2.2.2.2.2.2⟩
theorem Ev.warm {D : va_G} {cA : Nat → ClassId} {A A' : Nat → Prop} {s U : State} {H : Heap} {locs : List Loc} (h : Ev D cA A s s.heap) (hW : s.WarmedH U.vm) (hS : va_S A s.heap H locs) (hA : ∀ q, A' q → A q) : Ev D cA A' U H :=
  ⟨va_K.moved hW.alike h.1, fun q hq => va_Nw.warmM hW (h.2.1 q hq), fun q hq => vk_R.warm hW (h.2.2.1 q hq), va_Nw.warmF hW h.2.2.2.1,
    (vk_S.moved hW.alike (h.2.2.2.2.1.kept hS.2.1)).narrow hA, (va_Z.moved hW.alike (h.2.2.2.2.2.1.kept hS.2.1)).narrow hA, (va_Zq.moved hW.alike (h.2.2.2.2.2.2.1.kept hS.2.1)).narrow hA, (va_Z.moved hW.alike (h.2.2.2.2.2.2.2.1.kept hS.2.1)).narrow hA, (va_T.moved hW.alike (h.2.2.2.2.2.2.2.2.kept hS.2.1)).narrow hA⟩
/-- a method's end -/
def QC (D : va_G) (wc : va_W) (sz : Nat) (Post : Option Value → va_W → Prop) : Array Value → State → Outcome → State → Prop := fun _ st oc t => (∃ (v : Option Value) (w1 : va_W), oc = .returned v ∧ Post v w1 ∧ va_P D vwCl w1 t.heap ∧ va_D (va_A wc sz) w1) ∧ va_F (va_A wc sz) st t
/-- a method's contract over the world wc -/
def Con (l : Launch) (D : va_G) (cA : Nat → ClassId) (y : MethodName) (wy : List Cond) (rm : Room) (wc : va_W) (av : List Value) (mc ms : Nat) (Post : Option Value → va_W → Prop) : Prop :=
  ∀ sz : Nat, Met l y wy rm (va_Pc av (fun U => U.heap.size = sz ∧ va_P D vwCl wc U.heap ∧ Ev D cA (va_A wc sz) U U.heap ∧ va_D (fun _ => True) wc)) (QC D wc sz Post) mc ms (va_A wc sz)
def PI (P : Int32 → va_W → Prop) : Option Value → va_W → Prop := fun v w => ∃ r, v = some (.int r) ∧ P r w
def PL (P : Int64 → va_W → Prop) : Option Value → va_W → Prop := fun v w => ∃ r, v = some (.long r) ∧ P r w
def PF (P : UInt32 → va_W → Prop) : Option Value → va_W → Prop := fun v w => ∃ r, v = some (.float r) ∧ P r w
def PR (P : Nat → va_W → Prop) : Option Value → va_W → Prop := fun v w => ∃ r, v = some (.ref r) ∧ P r w
def PV (P : va_W → Prop) : Option Value → va_W → Prop := fun v w => v = none ∧ P w
/-- what stands still while a method is walked -/
def Cx (p : Program) (s : State) (m : MethodId) (meth : Method) (c : Code) (cc : ByteArray) (nL : Nat) (args : Array Value) (Ts : List Cond) (own : String) (D : va_G) (cA : Nat → ClassId) (A : Nat → Prop) : Prop :=
  CallFix p m c cc nL s args Ts own ∧ Ev D cA A s s.heap ∧ (∀ q, s.heap.size ≤ q → A q) ∧ meth.locks = false ∧ ∀ w ∈ W0, w ∈ Ts
/-- a method's own words: its code, and all the tables' good ones -/
abbrev wm (y : MethodName) (cc : ByteArray) (n : Nat) (ret : Option FieldType) : List Cond := Cond.code y cc n ret :: W0
def Kf (p : Program) (l : Launch) (e : Env) (R : Room) (s : State) (m : MethodId) (args : Array Value) (below : List Frame) (meth : Method) (c : Code) (D : va_G) (A : Nat → Prop) (nL cells slots : Nat) (Q : State → Prop) (ws : va_W) (pc : Nat) (lv : List (Nat × Value)) (st : List Value) : Prop :=
  ∀ (H : Heap) (locs : List Loc) (ls : Array Slot), va_P D vwCl ws H → va_D A ws → va_S A s.heap H locs → lv_has ls nL lv → W p l e R s m args below meth c H locs cells slots Q (F0 m pc ls st)
section KA
variable {p : Program} {l : Launch} {e : Env} {R : Room} {s : State} {m : MethodId} {args : Array Value} {below : List Frame} {meth : Method} {c : Code} {D : va_G} {A : Nat → Prop} {nL cells slots : Nat} {Q : State → Prop} {ws : va_W} {pc : Nat} {lv : List (Nat × Value)} {st : List Value}
variable {cc : ByteArray} {Ts : List Cond} {own : String} {cA : Nat → ClassId}
theorem Con.of {y : MethodName} {rm : Room} {wc : va_W} {av : List Value} {mc ms maxL : Nat} {Post : Option Value → va_W → Prop} {ret : Option FieldType} (hy : plainName y.cls = true) (hav : (lg_sl av).length ≤ maxL)
    (body : ∀ (p : Program) (e : Env) (s : State) (m : MethodId) (args : Array Value) (below : List Frame) (meth : Method) (c : Code), Cx p s m meth c cc maxL args (wm y cc maxL ret) y.cls D cA (va_A wc s.heap.size) → meth.sig.returnType = ret → meth.name = y.name →
      Kf p l e rm s m args below meth c D (va_A wc s.heap.size) maxL 0 0 (MQ below (QC D wc s.heap.size Post) args s mc ms (va_A wc s.heap.size)) wc 0 (lv_args 0 av) []) : Con l D cA y (wm y cc maxL ret) rm wc av mc ms Post := by
  intro sz
  refine Met.ofW (cc := cc) (maxL := maxL) (ret := ret) (ws' := W0) hy rfl ?_
  intro p e s m args below meth c s₁ B hml hv
  obtain ⟨rfl, hsz, hP, hE, hD0⟩ := hv
  subst hsz
  have hts := atoms_spec (ws := wm y cc maxL ret) B.pre
  have hown : s.vm.findClass y.cls = some m.cls := findClass_of_methodNamed B.named
  rw [lg_entry_eq]
  exact body p e s m av.toArray below meth c ⟨⟨B.exec, B.bytes, hml, hown, hts⟩, hE, fun q h => Or.inr h, B.notSynchronized, fun _ h => List.mem_cons_of_mem _ h⟩ B.returns (name_of_methodNamed B.named B.method).1 s.heap [] _ hP hD0.self va_S.rf (lv_entry av hav)
/-- fewer locals -/
theorem k_lv (is : List Nat) {lv' : List (Nat × Value)} (h : is.filterMap (fun i => lv[i]?) = lv') (kk : Kf p l e R s m args below meth c D A nL cells slots Q ws pc lv' st) : Kf p l e R s m args below meth c D A nL cells slots Q ws pc lv st :=
  fun H locs ls hP hD hS hl => kk H locs ls hP hD hS (lv_sub hl is h)
/-- the world's cells in another order, or fewer -/
theorem k_ws (is : List Nat) {ws' : va_W} (hn : va_nd is = true) (h : is.map (fun i => ws[i]?) = ws'.map some) (kk : Kf p l e R s m args below meth c D A nL cells slots Q ws' pc lv st) : Kf p l e R s m args below meth c D A nL cells slots Q ws pc lv st :=
  fun H locs ls hP hD hS hl => kk H locs ls (fun k q hk => by
    have h1 : (is.map (fun i => ws[i]?))[k]? = some (some q) := by rw [h, List.getElem?_map, hk]; rfl
    rw [List.getElem?_map] at h1
    cases hi : is[k]? with
    | none => rw [hi] at h1; cases h1
    | some i => rw [hi] at h1; exact hP i q (Option.some.inj h1)) (hD.sub is hn h) hS hl
theorem k_eq {ws' : va_W} {lv' : List (Nat × Value)} {st' : List Value} (h1 : ws = ws') (h2 : lv = lv') (h3 : st = st') (kk : Kf p l e R s m args below meth c D A nL cells slots Q ws' pc lv' st') : Kf p l e R s m args below meth c D A nL cells slots Q ws pc lv st := by
  subst h1; subst h2; subst h3; exact kk
theorem k_widen {k n : Nat} (h1 : cells ≤ k) (h2 : slots ≤ n) (kk : Kf p l e R s m args below meth c D A nL k n Q ws pc lv st) : Kf p l e R s m args below meth c D A nL cells slots Q ws pc lv st :=
  fun H locs ls hP hD hS hl => W.widen h1 h2 (kk H locs ls hP hD hS hl)
theorem k_iconst (C : Cx p s m meth c cc nL args Ts own D cA A) {n : Int} {v : Int32} (hdg : decode cc pc = .ok (.iconst n, 1)) (hv : Int32.ofInt n = v) (kk : Kf p l e R s m args below meth c D A nL cells slots Q ws (pc + 1) lv (.int v :: st)) : Kf p l e R s m args below meth c D A nL cells slots Q ws pc lv st :=
  fun H locs ls hP hD hS hl => lv_iconst C.1.1 C.1.2.1 hdg hv (kk H locs ls hP hD hS hl)
theorem k_bipush (C : Cx p s m meth c cc nL args Ts own D cA A) {n : Int} {v : Int32} (hdg : decode cc pc = .ok (.bipush n, 2)) (hv : (Int8.ofInt n).toInt32 = v) (kk : Kf p l e R s m args below meth c D A nL cells slots Q ws (pc + 2) lv (.int v :: st)) : Kf p l e R s m args below meth c D A nL cells slots Q ws pc lv st :=
  fun H locs ls hP hD hS hl => lv_bipush C.1.1 C.1.2.1 hdg hv (kk H locs ls hP hD hS hl)
theorem k_sipush (C : Cx p s m meth c cc nL args Ts own D cA A) {n : Int} {v : Int32} (hdg : decode cc pc = .ok (.sipush n, 3)) (hv : (Int16.ofInt n).toInt32 = v) (kk : Kf p l e R s m args below meth c D A nL cells slots Q ws (pc + 3) lv (.int v :: st)) : Kf p l e R s m args below meth c D A nL cells slots Q ws pc lv st :=
  fun H locs ls hP hD hS hl => lv_sipush C.1.1 C.1.2.1 hdg hv (kk H locs ls hP hD hS hl)
theorem Cx.w (C : Cx p s m meth c cc nL args Ts own D cA A) {w : Cond} (h : w ∈ W0) : w.before args s = true := C.1.2.2.2.2 w (C.2.2.2.2 w h)
theorem k_ldc (C : Cx p s m meth c cc nL args Ts own D cA A) {index : Nat} {v : Int32} (hconst : Jvm.Cond.constant own index v ∈ W0) (hdg : decode cc pc = .ok (.ldc index, 2)) (kk : Kf p l e R s m args below meth c D A nL cells slots Q ws (pc + 2) lv (.int v :: st)) : Kf p l e R s m args below meth c D A nL cells slots Q ws pc lv st :=
  fun H locs ls hP hD hS hl => lv_ldc C.1.1 C.1.2.1 C.1.2.2.2.1 (C.w hconst) hdg (kk H locs ls hP hD hS hl)
theorem k_ldc2 (C : Cx p s m meth c cc nL args Ts own D cA A) {index : Nat} {v : Int64} (hconst : Jvm.Cond.constantLong own index v ∈ W0) (hdg : decode cc pc = .ok (.ldc2_w index, 3)) (kk : Kf p l e R s m args below meth c D A nL cells slots Q ws (pc + 3) lv (.long v :: st)) : Kf p l e R s m args below meth c D A nL cells slots Q ws pc lv st :=
  fun H locs ls hP hD hS hl => lv_ldc2 C.1.1 C.1.2.1 C.1.2.2.2.1 (C.w hconst) hdg (kk H locs ls hP hD hS hl)
theorem k_iload_n (C : Cx p s m meth c cc nL args Ts own D cA A) (j : Nat) {k : Fin 4} {i : Nat} {x : Int32} (hdg : decode cc pc = .ok (.iload_n k, 1)) (hi : (k : Nat) = i) (hj : lv[j]? = some (i, .int x)) (kk : Kf p l e R s m args below meth c D A nL cells slots Q ws (pc + 1) lv (.int x :: st)) : Kf p l e R s m args below meth c D A nL cells slots Q ws pc lv st :=
  fun H locs ls hP hD hS hl => lv_iload_n C.1.1 C.1.2.1 hdg hi (lv_at hl j hj) (kk H locs ls hP hD hS hl)
theorem k_iload (C : Cx p s m meth c cc nL args Ts own D cA A) (j : Nat) {i : Nat} {x : Int32} (hdg : decode cc pc = .ok (.iload i, 2)) (hj : lv[j]? = some (i, .int x)) (kk : Kf p l e R s m args below meth c D A nL cells slots Q ws (pc + 2) lv (.int x :: st)) : Kf p l e R s m args below meth c D A nL cells slots Q ws pc lv st :=
  fun H locs ls hP hD hS hl => lv_iload C.1.1 C.1.2.1 hdg (lv_at hl j hj) (kk H locs ls hP hD hS hl)
theorem k_lload_n (C : Cx p s m meth c cc nL args Ts own D cA A) (j : Nat) {k : Fin 4} {i : Nat} {x : Int64} (hdg : decode cc pc = .ok (.lload_n k, 1)) (hi : (k : Nat) = i) (hj : lv[j]? = some (i, .long x)) (kk : Kf p l e R s m args below meth c D A nL cells slots Q ws (pc + 1) lv (.long x :: st)) : Kf p l e R s m args below meth c D A nL cells slots Q ws pc lv st :=
  fun H locs ls hP hD hS hl => lv_lload_n C.1.1 C.1.2.1 hdg hi (lv_at hl j hj) (kk H locs ls hP hD hS hl)
theorem k_lload (C : Cx p s m meth c cc nL args Ts own D cA A) (j : Nat) {i : Nat} {x : Int64} (hdg : decode cc pc = .ok (.lload i, 2)) (hj : lv[j]? = some (i, .long x)) (kk : Kf p l e R s m args below meth c D A nL cells slots Q ws (pc + 2) lv (.long x :: st)) : Kf p l e R s m args below meth c D A nL cells slots Q ws pc lv st :=
  fun H locs ls hP hD hS hl => lv_lload C.1.1 C.1.2.1 hdg (lv_at hl j hj) (kk H locs ls hP hD hS hl)
theorem k_aload_n (C : Cx p s m meth c cc nL args Ts own D cA A) (j : Nat) {k : Fin 4} {i x : Nat} (hdg : decode cc pc = .ok (.aload_n k, 1)) (hi : (k : Nat) = i) (hj : lv[j]? = some (i, .ref x)) (kk : Kf p l e R s m args below meth c D A nL cells slots Q ws (pc + 1) lv (.ref x :: st)) : Kf p l e R s m args below meth c D A nL cells slots Q ws pc lv st :=
  fun H locs ls hP hD hS hl => lv_aload_n C.1.1 C.1.2.1 hdg hi (lv_at hl j hj) (kk H locs ls hP hD hS hl)
theorem k_aload (C : Cx p s m meth c cc nL args Ts own D cA A) (j : Nat) {i x : Nat} (hdg : decode cc pc = .ok (.aload i, 2)) (hj : lv[j]? = some (i, .ref x)) (kk : Kf p l e R s m args below meth c D A nL cells slots Q ws (pc + 2) lv (.ref x :: st)) : Kf p l e R s m args below meth c D A nL cells slots Q ws pc lv st :=
  fun H locs ls hP hD hS hl => lv_aload C.1.1 C.1.2.1 hdg (lv_at hl j hj) (kk H locs ls hP hD hS hl)
theorem k_istore_n (C : Cx p s m meth c cc nL args Ts own D cA A) {k : Fin 4} {i : Nat} {x : Int32} {lv' : List (Nat × Value)} (hdg : decode cc pc = .ok (.istore_n k, 1)) (hi : (k : Nat) = i) (hn : i < nL) (hl : (i, Value.int x) :: lv.filter (fun q => !(q.1 == i) && !(q.1 + 1 == i && q.2.category == 2)) = lv') (kk : Kf p l e R s m args below meth c D A nL cells slots Q ws (pc + 1) lv' st) : Kf p l e R s m args below meth c D A nL cells slots Q ws pc lv (.int x :: st) :=
  fun H locs ls hP hD hS h => lv_istore_n C.1.1 C.1.2.1 hdg hi h hn hl (fun ls h => kk H locs ls hP hD hS h)
theorem k_istore (C : Cx p s m meth c cc nL args Ts own D cA A) {i : Nat} {x : Int32} {lv' : List (Nat × Value)} (hdg : decode cc pc = .ok (.istore i, 2)) (hn : i < nL) (hl : (i, Value.int x) :: lv.filter (fun q => !(q.1 == i) && !(q.1 + 1 == i && q.2.category == 2)) = lv') (kk : Kf p l e R s m args below meth c D A nL cells slots Q ws (pc + 2) lv' st) : Kf p l e R s m args below meth c D A nL cells slots Q ws pc lv (.int x :: st) :=
  fun H locs ls hP hD hS h => lv_istore C.1.1 C.1.2.1 hdg h hn hl (fun ls h => kk H locs ls hP hD hS h)
theorem k_astore_n (C : Cx p s m meth c cc nL args Ts own D cA A) {k : Fin 4} {i x : Nat} {lv' : List (Nat × Value)} (hdg : decode cc pc = .ok (.astore_n k, 1)) (hi : (k : Nat) = i) (hn : i < nL) (hl : (i, Value.ref x) :: lv.filter (fun q => !(q.1 == i) && !(q.1 + 1 == i && q.2.category == 2)) = lv') (kk : Kf p l e R s m args below meth c D A nL cells slots Q ws (pc + 1) lv' st) : Kf p l e R s m args below meth c D A nL cells slots Q ws pc lv (.ref x :: st) :=
  fun H locs ls hP hD hS h => lv_astore_n C.1.1 C.1.2.1 hdg hi h hn hl (fun ls h => kk H locs ls hP hD hS h)
theorem k_astore (C : Cx p s m meth c cc nL args Ts own D cA A) {i x : Nat} {lv' : List (Nat × Value)} (hdg : decode cc pc = .ok (.astore i, 2)) (hn : i < nL) (hl : (i, Value.ref x) :: lv.filter (fun q => !(q.1 == i) && !(q.1 + 1 == i && q.2.category == 2)) = lv') (kk : Kf p l e R s m args below meth c D A nL cells slots Q ws (pc + 2) lv' st) : Kf p l e R s m args below meth c D A nL cells slots Q ws pc lv (.ref x :: st) :=
  fun H locs ls hP hD hS h => lv_astore C.1.1 C.1.2.1 hdg h hn hl (fun ls h => kk H locs ls hP hD hS h)
theorem k_iinc (C : Cx p s m meth c cc nL args Ts own D cA A) {i k : Nat} {n : Int} {x v : Int32} {lv' : List (Nat × Value)} (hdg : decode cc pc = .ok (.iinc i n, 3)) (hk : lv[k]? = some (i, .int x)) (hv : x + Int32.ofInt n = v) (hn : i < nL) (hl : (i, Value.int v) :: lv.filter (fun q => !(q.1 == i) && !(q.1 + 1 == i && q.2.category == 2)) = lv') (kk : Kf p l e R s m args below meth c D A nL cells slots Q ws (pc + 3) lv' st) : Kf p l e R s m args below meth c D A nL cells slots Q ws pc lv st :=
  fun H locs ls hP hD hS h => lv_iinc C.1.1 C.1.2.1 hdg h hk hv hn hl (fun ls h => kk H locs ls hP hD hS h)
theorem k_iadd (C : Cx p s m meth c cc nL args Ts own D cA A) {x y : Int32} (hdg : decode cc pc = .ok (.iadd, 1)) (kk : Kf p l e R s m args below meth c D A nL cells slots Q ws (pc + 1) lv (.int (x + y) :: st)) : Kf p l e R s m args below meth c D A nL cells slots Q ws pc lv (.int y :: .int x :: st) :=
  fun H locs ls hP hD hS hl => lv_iadd C.1.1 C.1.2.1 hdg (kk H locs ls hP hD hS hl)
theorem k_isub (C : Cx p s m meth c cc nL args Ts own D cA A) {x y : Int32} (hdg : decode cc pc = .ok (.isub, 1)) (kk : Kf p l e R s m args below meth c D A nL cells slots Q ws (pc + 1) lv (.int (x - y) :: st)) : Kf p l e R s m args below meth c D A nL cells slots Q ws pc lv (.int y :: .int x :: st) :=
  fun H locs ls hP hD hS hl => lv_isub C.1.1 C.1.2.1 hdg (kk H locs ls hP hD hS hl)
theorem k_imul (C : Cx p s m meth c cc nL args Ts own D cA A) {x y : Int32} (hdg : decode cc pc = .ok (.imul, 1)) (kk : Kf p l e R s m args below meth c D A nL cells slots Q ws (pc + 1) lv (.int (x * y) :: st)) : Kf p l e R s m args below meth c D A nL cells slots Q ws pc lv (.int y :: .int x :: st) :=
  fun H locs ls hP hD hS hl => lv_imul C.1.1 C.1.2.1 hdg (kk H locs ls hP hD hS hl)
theorem k_iand (C : Cx p s m meth c cc nL args Ts own D cA A) {x y : Int32} (hdg : decode cc pc = .ok (.iand, 1)) (kk : Kf p l e R s m args below meth c D A nL cells slots Q ws (pc + 1) lv (.int (x &&& y) :: st)) : Kf p l e R s m args below meth c D A nL cells slots Q ws pc lv (.int y :: .int x :: st) :=
  fun H locs ls hP hD hS hl => lv_iand C.1.1 C.1.2.1 hdg (kk H locs ls hP hD hS hl)
theorem k_dup (C : Cx p s m meth c cc nL args Ts own D cA A) {v : Value} (hdg : decode cc pc = .ok (.dup, 1)) (hv : v.category = 1) (kk : Kf p l e R s m args below meth c D A nL cells slots Q ws (pc + 1) lv (v :: v :: st)) : Kf p l e R s m args below meth c D A nL cells slots Q ws pc lv (v :: st) :=
  fun H locs ls hP hD hS hl => lv_dup C.1.1 C.1.2.1 hdg hv (kk H locs ls hP hD hS hl)
theorem k_pop (C : Cx p s m meth c cc nL args Ts own D cA A) {v : Value} (hdg : decode cc pc = .ok (.pop, 1)) (hv : v.category = 1) (kk : Kf p l e R s m args below meth c D A nL cells slots Q ws (pc + 1) lv st) : Kf p l e R s m args below meth c D A nL cells slots Q ws pc lv (v :: st) :=
  fun H locs ls hP hD hS hl => lv_pop C.1.1 C.1.2.1 hdg hv (kk H locs ls hP hD hS hl)
theorem k_goto (C : Cx p s m meth c cc nL args Ts own D cA A) {off : Int} {tgt : Nat} (hdg : decode cc pc = .ok (.goto off, 3)) (ht : (pc : Int) + off = (tgt : Int)) (kk : Kf p l e R s m args below meth c D A nL cells slots Q ws tgt lv st) : Kf p l e R s m args below meth c D A nL cells slots Q ws pc lv st :=
  fun H locs ls hP hD hS hl => lv_goto C.1.1 C.1.2.1 hdg ht (kk H locs ls hP hD hS hl)
theorem k_if_eq (C : Cx p s m meth c cc nL args Ts own D cA A) {x : Int32} {off : Int} {tgt : Nat} (hdg : decode cc pc = .ok (.ifCond .eq off, 3)) (ht : (pc : Int) + off = (tgt : Int)) (kt : x = 0 → Kf p l e R s m args below meth c D A nL cells slots Q ws tgt lv st) (kf : ¬ x = 0 → Kf p l e R s m args below meth c D A nL cells slots Q ws (pc + 3) lv st) : Kf p l e R s m args below meth c D A nL cells slots Q ws pc lv (.int x :: st) :=
  fun H locs ls hP hD hS hl => lv_if_eq C.1.1 C.1.2.1 hdg ht (fun h => kt h H locs ls hP hD hS hl) (fun h => kf h H locs ls hP hD hS hl)
theorem k_if_ne (C : Cx p s m meth c cc nL args Ts own D cA A) {x : Int32} {off : Int} {tgt : Nat} (hdg : decode cc pc = .ok (.ifCond .ne off, 3)) (ht : (pc : Int) + off = (tgt : Int)) (kt : ¬ x = 0 → Kf p l e R s m args below meth c D A nL cells slots Q ws tgt lv st) (kf : x = 0 → Kf p l e R s m args below meth c D A nL cells slots Q ws (pc + 3) lv st) : Kf p l e R s m args below meth c D A nL cells slots Q ws pc lv (.int x :: st) :=
  fun H locs ls hP hD hS hl => lv_if_ne C.1.1 C.1.2.1 hdg ht (fun h => kt h H locs ls hP hD hS hl) (fun h => kf h H locs ls hP hD hS hl)
theorem k_if_lt (C : Cx p s m meth c cc nL args Ts own D cA A) {x : Int32} {off : Int} {tgt : Nat} (hdg : decode cc pc = .ok (.ifCond .lt off, 3)) (ht : (pc : Int) + off = (tgt : Int)) (kt : x < 0 → Kf p l e R s m args below meth c D A nL cells slots Q ws tgt lv st) (kf : ¬ x < 0 → Kf p l e R s m args below meth c D A nL cells slots Q ws (pc + 3) lv st) : Kf p l e R s m args below meth c D A nL cells slots Q ws pc lv (.int x :: st) :=
  fun H locs ls hP hD hS hl => lv_if_lt C.1.1 C.1.2.1 hdg ht (fun h => kt h H locs ls hP hD hS hl) (fun h => kf h H locs ls hP hD hS hl)
theorem k_if_ge (C : Cx p s m meth c cc nL args Ts own D cA A) {x : Int32} {off : Int} {tgt : Nat} (hdg : decode cc pc = .ok (.ifCond .ge off, 3)) (ht : (pc : Int) + off = (tgt : Int)) (kt : 0 ≤ x → Kf p l e R s m args below meth c D A nL cells slots Q ws tgt lv st) (kf : ¬ 0 ≤ x → Kf p l e R s m args below meth c D A nL cells slots Q ws (pc + 3) lv st) : Kf p l e R s m args below meth c D A nL cells slots Q ws pc lv (.int x :: st) :=
  fun H locs ls hP hD hS hl => lv_if_ge C.1.1 C.1.2.1 hdg ht (fun h => kt h H locs ls hP hD hS hl) (fun h => kf h H locs ls hP hD hS hl)
theorem k_if_gt (C : Cx p s m meth c cc nL args Ts own D cA A) {x : Int32} {off : Int} {tgt : Nat} (hdg : decode cc pc = .ok (.ifCond .gt off, 3)) (ht : (pc : Int) + off = (tgt : Int)) (kt : 0 < x → Kf p l e R s m args below meth c D A nL cells slots Q ws tgt lv st) (kf : ¬ 0 < x → Kf p l e R s m args below meth c D A nL cells slots Q ws (pc + 3) lv st) : Kf p l e R s m args below meth c D A nL cells slots Q ws pc lv (.int x :: st) :=
  fun H locs ls hP hD hS hl => lv_if_gt C.1.1 C.1.2.1 hdg ht (fun h => kt h H locs ls hP hD hS hl) (fun h => kf h H locs ls hP hD hS hl)
theorem k_if_le (C : Cx p s m meth c cc nL args Ts own D cA A) {x : Int32} {off : Int} {tgt : Nat} (hdg : decode cc pc = .ok (.ifCond .le off, 3)) (ht : (pc : Int) + off = (tgt : Int)) (kt : x ≤ 0 → Kf p l e R s m args below meth c D A nL cells slots Q ws tgt lv st) (kf : ¬ x ≤ 0 → Kf p l e R s m args below meth c D A nL cells slots Q ws (pc + 3) lv st) : Kf p l e R s m args below meth c D A nL cells slots Q ws pc lv (.int x :: st) :=
  fun H locs ls hP hD hS hl => lv_if_le C.1.1 C.1.2.1 hdg ht (fun h => kt h H locs ls hP hD hS hl) (fun h => kf h H locs ls hP hD hS hl)
theorem k_icmp_eq (C : Cx p s m meth c cc nL args Ts own D cA A) {x y : Int32} {off : Int} {tgt : Nat} (hdg : decode cc pc = .ok (.if_icmp .eq off, 3)) (ht : (pc : Int) + off = (tgt : Int)) (kt : x = y → Kf p l e R s m args below meth c D A nL cells slots Q ws tgt lv st) (kf : ¬ x = y → Kf p l e R s m args below meth c D A nL cells slots Q ws (pc + 3) lv st) : Kf p l e R s m args below meth c D A nL cells slots Q ws pc lv (.int y :: .int x :: st) :=
  fun H locs ls hP hD hS hl => lv_icmp_eq C.1.1 C.1.2.1 hdg ht (fun h => kt h H locs ls hP hD hS hl) (fun h => kf h H locs ls hP hD hS hl)
theorem k_icmp_ne (C : Cx p s m meth c cc nL args Ts own D cA A) {x y : Int32} {off : Int} {tgt : Nat} (hdg : decode cc pc = .ok (.if_icmp .ne off, 3)) (ht : (pc : Int) + off = (tgt : Int)) (kt : ¬ x = y → Kf p l e R s m args below meth c D A nL cells slots Q ws tgt lv st) (kf : x = y → Kf p l e R s m args below meth c D A nL cells slots Q ws (pc + 3) lv st) : Kf p l e R s m args below meth c D A nL cells slots Q ws pc lv (.int y :: .int x :: st) :=
  fun H locs ls hP hD hS hl => lv_icmp_ne C.1.1 C.1.2.1 hdg ht (fun h => kt h H locs ls hP hD hS hl) (fun h => kf h H locs ls hP hD hS hl)
theorem k_icmp_lt (C : Cx p s m meth c cc nL args Ts own D cA A) {x y : Int32} {off : Int} {tgt : Nat} (hdg : decode cc pc = .ok (.if_icmp .lt off, 3)) (ht : (pc : Int) + off = (tgt : Int)) (kt : x < y → Kf p l e R s m args below meth c D A nL cells slots Q ws tgt lv st) (kf : ¬ x < y → Kf p l e R s m args below meth c D A nL cells slots Q ws (pc + 3) lv st) : Kf p l e R s m args below meth c D A nL cells slots Q ws pc lv (.int y :: .int x :: st) :=
  fun H locs ls hP hD hS hl => lv_icmp_lt C.1.1 C.1.2.1 hdg ht (fun h => kt h H locs ls hP hD hS hl) (fun h => kf h H locs ls hP hD hS hl)
theorem k_icmp_ge (C : Cx p s m meth c cc nL args Ts own D cA A) {x y : Int32} {off : Int} {tgt : Nat} (hdg : decode cc pc = .ok (.if_icmp .ge off, 3)) (ht : (pc : Int) + off = (tgt : Int)) (kt : y ≤ x → Kf p l e R s m args below meth c D A nL cells slots Q ws tgt lv st) (kf : ¬ y ≤ x → Kf p l e R s m args below meth c D A nL cells slots Q ws (pc + 3) lv st) : Kf p l e R s m args below meth c D A nL cells slots Q ws pc lv (.int y :: .int x :: st) :=
  fun H locs ls hP hD hS hl => lv_icmp_ge C.1.1 C.1.2.1 hdg ht (fun h => kt h H locs ls hP hD hS hl) (fun h => kf h H locs ls hP hD hS hl)
theorem k_icmp_gt (C : Cx p s m meth c cc nL args Ts own D cA A) {x y : Int32} {off : Int} {tgt : Nat} (hdg : decode cc pc = .ok (.if_icmp .gt off, 3)) (ht : (pc : Int) + off = (tgt : Int)) (kt : y < x → Kf p l e R s m args below meth c D A nL cells slots Q ws tgt lv st) (kf : ¬ y < x → Kf p l e R s m args below meth c D A nL cells slots Q ws (pc + 3) lv st) : Kf p l e R s m args below meth c D A nL cells slots Q ws pc lv (.int y :: .int x :: st) :=
  fun H locs ls hP hD hS hl => lv_icmp_gt C.1.1 C.1.2.1 hdg ht (fun h => kt h H locs ls hP hD hS hl) (fun h => kf h H locs ls hP hD hS hl)
theorem k_icmp_le (C : Cx p s m meth c cc nL args Ts own D cA A) {x y : Int32} {off : Int} {tgt : Nat} (hdg : decode cc pc = .ok (.if_icmp .le off, 3)) (ht : (pc : Int) + off = (tgt : Int)) (kt : x ≤ y → Kf p l e R s m args below meth c D A nL cells slots Q ws tgt lv st) (kf : ¬ x ≤ y → Kf p l e R s m args below meth c D A nL cells slots Q ws (pc + 3) lv st) : Kf p l e R s m args below meth c D A nL cells slots Q ws pc lv (.int y :: .int x :: st) :=
  fun H locs ls hP hD hS hl => lv_icmp_le C.1.1 C.1.2.1 hdg ht (fun h => kt h H locs ls hP hD hS hl) (fun h => kf h H locs ls hP hD hS hl)
theorem k_get (C : Cx p s m meth c cc nL args Ts own D cA A) {a ci index N : Nat} {ref Cn : String} {T : u_T} {fs : List Value} {v : Value} (hin : ∀ w ∈ u_ws Cn T N, w ∈ W0) (q0 k : Nat) (he : ws[q0]? = some (a, .inr (ci, fs))) (hc : vwCl[ci]? = some (Cn, T, N)) (hk : k < N) (hlink : Cond.fieldLink own index ref (T k).2.1 (T k).2.2.1 ∈ W0) (href : ref = (T k).1) (hv : fs[k]? = some v) (hdg : decode cc pc = .ok (.getfield index, 3))
    (kk : Kf p l e R s m args below meth c D A nL cells slots Q ws (pc + 3) lv (v :: st)) : Kf p l e R s m args below meth c D A nL cells slots Q ws pc lv (.ref a :: st) :=
  fun H locs ls hP hD hS hl => va_get C.1.1 C.1.2.1 C.1.2.2.2.2 (fun w h => C.2.2.2.2 w (hin w h)) C.1.2.2.2.1 C.2.1.1 hP q0 he hc k hk (C.w hlink) (fun x h => by rw [href]; exact h) hv hdg (kk H locs ls hP hD hS hl)
theorem k_put (C : Cx p s m meth c cc nL args Ts own D cA A) {a ci index N : Nat} {ref Cn : String} {T : u_T} {fs fs' : List Value} {v : Value} {ty : FieldType} {ws' : va_W} (hin : ∀ w ∈ u_ws Cn T N, w ∈ W0) (ty0 : Nat → FieldType) (hty : ∀ k, k < N → parseFieldDescriptor (T k).2.2.1 = some (ty0 k)) (hnm : ∀ a, a < N → ∀ b, b < N → a ≠ b → (T a).2.1 ≠ (T b).2.1) (q0 k : Nat) (he : ws[q0]? = some (a, .inr (ci, fs))) (hc : vwCl[ci]? = some (Cn, T, N)) (hk : k < N) (hlink : Cond.fieldLink own index ref (T k).2.1 (T k).2.2.1 ∈ W0) (href : ref = (T k).1) (hfin : (T k).2.2.2 = false) (hd : ty0 k = ty) (hn : narrow ty v = v) (hfit : fits ty v = true) (hl : k < fs.length) (hfs : fs.set k v = fs') (hws : ws.set q0 (a, .inr (ci, fs')) = ws') (hdg : decode cc pc = .ok (.putfield index, 3))
    (kk : Kf p l e R s m args below meth c D A nL cells slots Q ws' (pc + 3) lv st) : Kf p l e R s m args below meth c D A nL cells slots Q ws pc lv (v :: .ref a :: st) := by
  subst hfs; subst hws; subst hd
  exact fun H locs ls hP hD hS hl' => va_put C.1.1 C.1.2.1 C.1.2.2.2.2 (fun w h => C.2.2.2.2 w (hin w h)) ty0 hty hnm C.1.2.2.2.1 C.2.1.1 hP hD hS q0 he hc k hk (C.w hlink) (fun x h => by rw [href]; exact h) hfin (hty k hk) hn hfit hl hdg (fun H locs hP hD hS => kk H locs ls hP hD hS hl')
theorem k_putF (C : Cx p s m meth c cc nL args Ts own D cA A) {a ci index N : Nat} {ref Cn : String} {T : u_T} {fs fs' : List Value} {v : Value} {ty : FieldType} {ws' : va_W} (hin : ∀ w ∈ u_ws Cn T N, w ∈ W0) (ty0 : Nat → FieldType) (hty : ∀ k, k < N → parseFieldDescriptor (T k).2.2.1 = some (ty0 k)) (hnm : ∀ a, a < N → ∀ b, b < N → a ≠ b → (T a).2.1 ≠ (T b).2.1) (q0 k : Nat) (he : ws[q0]? = some (a, .inr (ci, fs))) (hc : vwCl[ci]? = some (Cn, T, N)) (hk : k < N) (hlink : Cond.fieldLink own index ref (T k).2.1 (T k).2.2.1 ∈ W0) (href : ref = (T k).1) (hfin : (T k).2.2.2 = true) (hini : meth.name = "<init>") (hdecl : (T k).1 = own) (hd : ty0 k = ty) (hn : narrow ty v = v) (hfit : fits ty v = true) (hl : k < fs.length) (hfs : fs.set k v = fs') (hws : ws.set q0 (a, .inr (ci, fs')) = ws') (hdg : decode cc pc = .ok (.putfield index, 3))
    (kk : Kf p l e R s m args below meth c D A nL cells slots Q ws' (pc + 3) lv st) : Kf p l e R s m args below meth c D A nL cells slots Q ws pc lv (v :: .ref a :: st) := by
  subst hfs; subst hws; subst hd
  exact fun H locs ls hP hD hS hl' => va_putF C.1.1 C.1.2.1 C.1.2.2.2.2 (fun w h => C.2.2.2.2 w (hin w h)) ty0 hty hnm C.1.2.2.2.1 C.2.1.1 hP hD hS q0 he hc k hk (C.w hlink) (fun x h => by rw [href]; exact h) hfin hini hdecl (hty k hk) hn hfit hl hdg (fun H locs hP hD hS => kk H locs ls hP hD hS hl')
theorem k_iald (C : Cx p s m meth c cc nL args Ts own D cA A) {a n : Nat} {f : Nat → Int32} {i : Int32} (q0 : Nat) (ha : ws[q0]? = some (a, .inl (cA 0, n, .inl f))) (hin : vp_in i n) (hdg : decode cc pc = .ok (.iaload, 1))
    (kk : Kf p l e R s m args below meth c D A nL cells slots Q ws (pc + 1) lv (.int (f i.toNatClampNeg) :: st)) : Kf p l e R s m args below meth c D A nL cells slots Q ws pc lv (.int i :: .ref a :: st) :=
  fun H locs ls hP hD hS hl => va_iald C.1.1 C.1.2.1 C.2.1.1 hP q0 0 ha rfl hin hdg (kk H locs ls hP hD hS hl)
theorem k_iast (C : Cx p s m meth c cc nL args Ts own D cA A) {a n : Nat} {f : Nat → Int32} {i x : Int32} {ws' : va_W} (q0 : Nat) (ha : ws[q0]? = some (a, .inl (cA 0, n, .inl f))) (hin : vp_in i n) (hws : ws.set q0 (a, .inl (cA 0, n, .inl (upd f i.toNatClampNeg x))) = ws') (hdg : decode cc pc = .ok (.iastore, 1))
    (kk : Kf p l e R s m args below meth c D A nL cells slots Q ws' (pc + 1) lv st) : Kf p l e R s m args below meth c D A nL cells slots Q ws pc lv (.int x :: .int i :: .ref a :: st) := by
  subst hws
  exact fun H locs ls hP hD hS hl => va_iast C.1.1 C.1.2.1 C.2.1.1 hP hD hS q0 0 ha rfl hin hdg (fun H locs hP hD hS => kk H locs ls hP hD hS hl)
theorem k_alen (C : Cx p s m meth c cc nL args Ts own D cA A) {a : Nat} {k : ClassId} {x : vp_A} {ty : FieldType} {v : Int32} (q0 t0 : Nat) (ha : ws[q0]? = some (a, .inl (k, x))) (ht : (kT cA)[t0]? = some (k, ty)) (hv : Int32.ofNat x.1 = v) (hdg : decode cc pc = .ok (.arraylength, 1))
    (kk : Kf p l e R s m args below meth c D A nL cells slots Q ws (pc + 1) lv (.int v :: st)) : Kf p l e R s m args below meth c D A nL cells slots Q ws pc lv (.ref a :: st) :=
  fun H locs ls hP hD hS hl => va_alen C.1.1 C.1.2.1 C.2.1.1 hP q0 t0 ha ht hv hdg (kk H locs ls hP hD hS hl)
theorem k_iret {wc : va_W} {P : Int32 → va_W → Prop} {v : Int32} (C : Cx p s m meth c cc nL args Ts own D cA (va_A wc s.heap.size)) (hr : meth.sig.returnType = some .int) (hdg : decode cc pc = .ok (.ireturn, 1)) (h : P v ws) : Kf p l e R s m args below meth c D (va_A wc s.heap.size) nL cells slots (MQ below (QC D wc s.heap.size (PI P)) args s cells slots (va_A wc s.heap.size)) ws pc lv [.int v] :=
  fun H locs ls hP hD hS _ => W.iret C.1.1 C.1.2.1 hr (fun t ht _ => ⟨⟨_, ws, rfl, ⟨v, rfl, h⟩, by rw [ht]; exact hP, hD⟩, hS.F ht⟩) hS.2.2 hdg C.2.2.2.1
theorem k_zret {wc : va_W} {P : Int32 → va_W → Prop} {v : Int32} {ty : FieldType} (C : Cx p s m meth c cc nL args Ts own D cA (va_A wc s.heap.size)) (hr : meth.sig.returnType = some ty) (hn : narrow ty (.int v) = .int v) (hdg : decode cc pc = .ok (.ireturn, 1)) (h : P v ws) : Kf p l e R s m args below meth c D (va_A wc s.heap.size) nL cells slots (MQ below (QC D wc s.heap.size (PI P)) args s cells slots (va_A wc s.heap.size)) ws pc lv [.int v] :=
  fun H locs ls hP hD hS _ => W.zret C.1.1 C.1.2.1 hr hn (fun t ht _ => ⟨⟨_, ws, rfl, ⟨v, rfl, h⟩, by rw [ht]; exact hP, hD⟩, hS.F ht⟩) hS.2.2 hdg C.2.2.2.1
theorem k_lret {wc : va_W} {P : Int64 → va_W → Prop} {v : Int64} (C : Cx p s m meth c cc nL args Ts own D cA (va_A wc s.heap.size)) (hr : meth.sig.returnType = some .long) (hdg : decode cc pc = .ok (.lreturn, 1)) (h : P v ws) : Kf p l e R s m args below meth c D (va_A wc s.heap.size) nL cells slots (MQ below (QC D wc s.heap.size (PL P)) args s cells slots (va_A wc s.heap.size)) ws pc lv [.long v] :=
  fun H locs ls hP hD hS _ => W.lret C.1.1 C.1.2.1 hr (fun t ht _ => ⟨⟨_, ws, rfl, ⟨v, rfl, h⟩, by rw [ht]; exact hP, hD⟩, hS.F ht⟩) hS.2.2 hdg C.2.2.2.1
theorem k_vret {wc : va_W} {P : va_W → Prop} (C : Cx p s m meth c cc nL args Ts own D cA (va_A wc s.heap.size)) (hr : meth.sig.returnType = none) (hdg : decode cc pc = .ok (.return_, 1)) (h : P ws) : Kf p l e R s m args below meth c D (va_A wc s.heap.size) nL cells slots (MQ below (QC D wc s.heap.size (PV P)) args s cells slots (va_A wc s.heap.size)) ws pc lv [] :=
  fun H locs ls hP hD hS _ => W.vret C.1.1 C.1.2.1 hr (fun t ht _ => ⟨⟨none, ws, rfl, ⟨rfl, h⟩, by rw [ht]; exact hP, hD⟩, hS.F ht⟩) hS.2.2 hdg C.2.2.2.1
theorem k_aret {wc : va_W} {P : Nat → va_W → Prop} {v : Nat} {rt : FieldType} (C : Cx p s m meth c cc nL args Ts own D cA (va_A wc s.heap.size)) (hr : meth.sig.returnType = some rt) (hrt : (∃ n, rt = .object n) ∨ ∃ t, rt = .array t) (hdg : decode cc pc = .ok (.areturn, 1)) (h : P v ws) : Kf p l e R s m args below meth c D (va_A wc s.heap.size) nL cells slots (MQ below (QC D wc s.heap.size (PR P)) args s cells slots (va_A wc s.heap.size)) ws pc lv [.ref v] :=
  fun H locs ls hP hD hS _ => W.aret C.1.1 C.1.2.1 hr hrt (Or.inr ⟨v, rfl⟩) (fun t ht _ => ⟨⟨_, ws, rfl, ⟨v, rfl, h⟩, by rw [ht]; exact hP, hD⟩, hS.F ht⟩) hS.2.2 hdg C.2.2.2.1
/-- a call that can be run over the cells wc -/
def KR (p : Program) (l : Launch) (e : Env) (R : Room) (s : State) (m : MethodId) (args : Array Value) (below : List Frame) (meth : Method) (c : Code) (D : va_G) (A : Nat → Prop) (nL cells slots pc : Nat) (st0 rest : List Value) (wc : va_W) (mc ms : Nat) (Post : Option Value → va_W → Prop) : Prop :=
  ∀ (H : Heap) (locs : List Loc) (ls : Array Slot), va_P D vwCl wc H → va_D (fun _ => True) wc → (∀ q, va_A wc H.size q → A q) → va_S A s.heap H locs → ls.size = nL → ∃ av : Array Value, va_Run p l e R s m args below meth c H locs cells slots mc ms (F0 m pc ls st0) rest (QC D wc H.size Post av) (va_A wc H.size)
theorem k_call {mc ms : Nat} {st0 rest : List Value} {wc wr : va_W} {Post : Option Value → va_W → Prop} (C : Cx p s m meth c cc nL args Ts own D cA A) (isC isR : List Nat) (hC : isC.map (fun i => ws[i]?) = wc.map some) (hR : isR.map (fun i => ws[i]?) = wr.map some) (hnC : va_nd isC = true) (hnR : va_nd isR = true) (hdis : ∀ i ∈ isR, i ∉ isC)
    (hr : KR p l e R s m args below meth c D A nL cells slots pc st0 rest wc mc ms Post)
    (kk : ∀ (v : Option Value) (w1 : va_W), Post v w1 → Kf p l e R s m args below meth c D A nL (cells + mc) (slots + ms) Q (wr ++ w1) (pc + 3) lv (v.toList ++ rest)) : Kf p l e R s m args below meth c D A nL cells slots Q ws pc lv st0 := by
  intro H locs ls hP hD hS hl
  have hPc : va_P D vwCl wc H := fun k q hk => by
    have h1 : (isC.map (fun i => ws[i]?))[k]? = some (some q) := by rw [hC, List.getElem?_map, hk]; rfl
    rw [List.getElem?_map] at h1
    cases hi : isC[k]? with
    | none => rw [hi] at h1; cases h1
    | some i => rw [hi] at h1; exact hP i q (Option.some.inj h1)
  have hDc := hD.sub isC hnC hC
  have hFc := va_free hD hS C.2.2.1 isC hC
  obtain ⟨av, hr⟩ := hr H locs ls hPc (hDc.weaken (fun _ _ _ _ => trivial)) hFc hS hl.1
  intro T hT X
  obtain ⟨v, st₀, t, T', L, h0, X', hL, e1, e2, ⟨⟨v', w1, hv, hp, hP1, hD1⟩, hz, hk⟩, stp⟩ := hr T hT X
  cases hv
  rw [h0] at hz hk
  rw [← e1] at hP1 hz hk
  obtain ⟨hPj, hDj⟩ := va_join hP hD isC isR hC hR hnR hdis hk hFc hP1 hD1
  obtain ⟨t2, a1, b1⟩ := kk v w1 hp T'.heap (locs ++ L) ls hPj hDj ⟨Nat.le_trans hS.1 hz, fun q h1 h2 => (hk q (Nat.lt_of_lt_of_le h1 hS.1) (fun z => h2 (hFc q z))).trans (hS.2.1 q h1 h2), fun q hq => by
      rcases List.mem_append.mp hq with h | h
      · exact hS.2.2 q h
      · exact hFc _ (hL q h)⟩ hl T' rfl X'
  exact ⟨t2, stp t2 a1, b1⟩
theorem k_calli {mc ms : Nat} {st0 rest : List Value} {wc wr : va_W} {P : Int32 → va_W → Prop} (C : Cx p s m meth c cc nL args Ts own D cA A) (isC isR : List Nat) (hC : isC.map (fun i => ws[i]?) = wc.map some) (hR : isR.map (fun i => ws[i]?) = wr.map some) (hnC : va_nd isC = true) (hnR : va_nd isR = true) (hdis : ∀ i ∈ isR, i ∉ isC)
    (hr : KR p l e R s m args below meth c D A nL cells slots pc st0 rest wc mc ms (PI P))
    (kk : ∀ (r : Int32) (w1 : va_W), P r w1 → Kf p l e R s m args below meth c D A nL (cells + mc) (slots + ms) Q (wr ++ w1) (pc + 3) lv (.int r :: rest)) : Kf p l e R s m args below meth c D A nL cells slots Q ws pc lv st0 :=
  k_call C isC isR hC hR hnC hnR hdis hr (fun v w1 ⟨r, e, h⟩ => by subst e; exact kk r w1 h)
theorem k_calll {mc ms : Nat} {st0 rest : List Value} {wc wr : va_W} {P : Int64 → va_W → Prop} (C : Cx p s m meth c cc nL args Ts own D cA A) (isC isR : List Nat) (hC : isC.map (fun i => ws[i]?) = wc.map some) (hR : isR.map (fun i => ws[i]?) = wr.map some) (hnC : va_nd isC = true) (hnR : va_nd isR = true) (hdis : ∀ i ∈ isR, i ∉ isC)
    (hr : KR p l e R s m args below meth c D A nL cells slots pc st0 rest wc mc ms (PL P))
    (kk : ∀ (r : Int64) (w1 : va_W), P r w1 → Kf p l e R s m args below meth c D A nL (cells + mc) (slots + ms) Q (wr ++ w1) (pc + 3) lv (.long r :: rest)) : Kf p l e R s m args below meth c D A nL cells slots Q ws pc lv st0 :=
  k_call C isC isR hC hR hnC hnR hdis hr (fun v w1 ⟨r, e, h⟩ => by subst e; exact kk r w1 h)
theorem k_callf {mc ms : Nat} {st0 rest : List Value} {wc wr : va_W} {P : UInt32 → va_W → Prop} (C : Cx p s m meth c cc nL args Ts own D cA A) (isC isR : List Nat) (hC : isC.map (fun i => ws[i]?) = wc.map some) (hR : isR.map (fun i => ws[i]?) = wr.map some) (hnC : va_nd isC = true) (hnR : va_nd isR = true) (hdis : ∀ i ∈ isR, i ∉ isC)
    (hr : KR p l e R s m args below meth c D A nL cells slots pc st0 rest wc mc ms (PF P))
    (kk : ∀ (r : UInt32) (w1 : va_W), P r w1 → Kf p l e R s m args below meth c D A nL (cells + mc) (slots + ms) Q (wr ++ w1) (pc + 3) lv (.float r :: rest)) : Kf p l e R s m args below meth c D A nL cells slots Q ws pc lv st0 :=
  k_call C isC isR hC hR hnC hnR hdis hr (fun v w1 ⟨r, e, h⟩ => by subst e; exact kk r w1 h)
theorem k_callr {mc ms : Nat} {st0 rest : List Value} {wc wr : va_W} {P : Nat → va_W → Prop} (C : Cx p s m meth c cc nL args Ts own D cA A) (isC isR : List Nat) (hC : isC.map (fun i => ws[i]?) = wc.map some) (hR : isR.map (fun i => ws[i]?) = wr.map some) (hnC : va_nd isC = true) (hnR : va_nd isR = true) (hdis : ∀ i ∈ isR, i ∉ isC)
    (hr : KR p l e R s m args below meth c D A nL cells slots pc st0 rest wc mc ms (PR P))
    (kk : ∀ (r : Nat) (w1 : va_W), P r w1 → Kf p l e R s m args below meth c D A nL (cells + mc) (slots + ms) Q (wr ++ w1) (pc + 3) lv (.ref r :: rest)) : Kf p l e R s m args below meth c D A nL cells slots Q ws pc lv st0 :=
  k_call C isC isR hC hR hnC hnR hdis hr (fun v w1 ⟨r, e, h⟩ => by subst e; exact kk r w1 h)
theorem k_callv {mc ms : Nat} {st0 rest : List Value} {wc wr : va_W} {P : va_W → Prop} (C : Cx p s m meth c cc nL args Ts own D cA A) (isC isR : List Nat) (hC : isC.map (fun i => ws[i]?) = wc.map some) (hR : isR.map (fun i => ws[i]?) = wr.map some) (hnC : va_nd isC = true) (hnR : va_nd isR = true) (hdis : ∀ i ∈ isR, i ∉ isC)
    (hr : KR p l e R s m args below meth c D A nL cells slots pc st0 rest wc mc ms (PV P))
    (kk : ∀ (w1 : va_W), P w1 → Kf p l e R s m args below meth c D A nL (cells + mc) (slots + ms) Q (wr ++ w1) (pc + 3) lv rest) : Kf p l e R s m args below meth c D A nL cells slots Q ws pc lv st0 :=
  k_call C isC isR hC hR hnC hnR hdis hr (fun v w1 ⟨e, h⟩ => by subst e; exact kk w1 h)
/-- the callee's start, out of the caller's -/
theorem k_pre {wc : va_W} {H : Heap} {locs : List Loc} {av : List Value} (C : Cx p s m meth c cc nL args Ts own D cA A) (hP : va_P D vwCl wc H) (hD : va_D (fun _ => True) wc) (hA : ∀ q, va_A wc H.size q → A q) (hS : va_S A s.heap H locs) : FrameBlind (va_Pc av (fun U => U.heap.size = H.size ∧ va_P D vwCl wc U.heap ∧ Ev D cA (va_A wc H.size) U U.heap ∧ va_D (fun _ => True) wc)) ∧ ∀ U : State, U.heap = H → s.WarmedH U.vm → va_Pc av (fun U => U.heap.size = H.size ∧ va_P D vwCl wc U.heap ∧ Ev D cA (va_A wc H.size) U U.heap ∧ va_D (fun _ => True) wc) av.toArray U :=
  ⟨fun a U g mk q => ⟨q.1, q.2.1, q.2.2.1, Ev.calling q.2.2.2.1 g mk a, q.2.2.2.2⟩, fun U hU hW => ⟨rfl, by rw [hU], by rw [hU]; exact hP, by rw [hU]; exact C.2.1.warm hW hS hA, hD⟩⟩
theorem k_runV (C : Cx p s m meth c cc nL args Ts own D cA A) {y : MethodName} {bytes : ByteArray} {maxL index n mc ms b ci q0 : Nat} {ret : Option FieldType} {wy : List Cond} {rm : Room} {Cn : String} {fs : List Value} {q : vw_C} {wc : va_W} {As st0 rest : List Value} {Post : Option Value → va_W → Prop} (hM : Con l D cA y wy rm wc (.ref b :: As) mc ms Post) (cw : CallW R s args own Cn index y bytes maxL ret wy rm mc ms n) (hq : wc[q0]? = some (b, .inr (ci, fs))) (hc : vwCl[ci]? = some q) (hCn : q.1 = Cn) (hn : As.length = n) (hst : st0 = As.reverse ++ .ref b :: rest) (hr : (rest.map fun v => v.category).sum ≤ 8) (hdg : decode cc pc = .ok (.invokevirtual index, 3)) (hf : cells + mc ≤ R.cells ∧ slots + ms ≤ R.slots) : KR p l e R s m args below meth c D A nL cells slots pc st0 rest wc mc ms Post := by
  intro H locs ls hP hD hA hS hl
  subst hCn
  have hp := k_pre (av := .ref b :: As) C hP hD hA hS
  exact ⟨_, va_runV (As := As) (rest := rest) C.1 (hM H.size) cw ⟨hp.1, va_recv C.2.1.1 hP hc hq, hp.2⟩ rfl hn hl hst (lv_room hr) hdg hf⟩
theorem k_runS (C : Cx p s m meth c cc nL args Ts own D cA A) {y : MethodName} {bytes : ByteArray} {maxL index n mc ms : Nat} {ret : Option FieldType} {wy : List Cond} {rm : Room} {wc : va_W} {As st0 rest : List Value} {Post : Option Value → va_W → Prop} (hM : Con l D cA y wy rm wc As mc ms Post) (cw : CallB R s args own index y bytes maxL ret wy rm mc ms n ∧ (Cond.static y).before args s = true) (hn : As.length = n) (hst : st0 = As.reverse ++ rest) (hr : (rest.map fun v => v.category).sum ≤ 8) (hdg : decode cc pc = .ok (.invokestatic index, 3)) (hf : cells + mc ≤ R.cells ∧ slots + ms ≤ R.slots) : KR p l e R s m args below meth c D A nL cells slots pc st0 rest wc mc ms Post := by
  intro H locs ls hP hD hA hS hl
  exact ⟨_, va_runS (As := As) (rest := rest) C.1 (hM H.size) cw (k_pre (av := As) C hP hD hA hS) rfl hn hl hst (lv_room hr) hdg hf⟩
theorem k_runI (C : Cx p s m meth c cc nL args Ts own D cA A) {y : MethodName} {bytes : ByteArray} {maxL index n mc ms b : Nat} {wy : List Cond} {rm : Room} {wc : va_W} {As st0 rest : List Value} {Post : Option Value → va_W → Prop} (hM : Con l D cA y wy rm wc (.ref b :: As) mc ms Post) (cw : CallB R s args own index y bytes maxL none wy rm mc ms n ∧ y.name = "<init>" ∧ (Cond.instanceMethod y).before args s = true) (hn : As.length = n) (hst : st0 = As.reverse ++ .ref b :: rest) (hr : (rest.map fun v => v.category).sum ≤ 8) (hdg : decode cc pc = .ok (.invokespecial index, 3)) (hf : cells + mc ≤ R.cells ∧ slots + ms ≤ R.slots) : KR p l e R s m args below meth c D A nL cells slots pc st0 rest wc mc ms Post := by
  intro H locs ls hP hD hA hS hl
  exact ⟨_, va_runI (As := As) (rest := rest) C.1 (hM H.size) cw (k_pre (av := .ref b :: As) C hP hD hA hS) rfl hn hl hst (lv_room hr) hdg hf⟩
theorem k_runSN (C : Cx p s m meth c cc nL args Ts own D cA A) {y : MethodName} {bytes : ByteArray} {maxL index n mc ms : Nat} {ret : Option FieldType} {wy : List Cond} {rm : Room} {host : String} {wc : va_W} {As st0 rest : List Value} {Post : Option Value → va_W → Prop} (hM : Con l D cA y wy rm wc As mc ms Post) (cw : va_CN R s args own index y host bytes maxL ret wy rm mc ms n ∧ (Cond.static y).before args s = true ∧ True) (hn : As.length = n) (hst : st0 = As.reverse ++ rest) (hr : (rest.map fun v => v.category).sum ≤ 8) (hdg : decode cc pc = .ok (.invokestatic index, 3)) (hf : cells + mc ≤ R.cells ∧ slots + ms ≤ R.slots) : KR p l e R s m args below meth c D A nL cells slots pc st0 rest wc mc ms Post := by
  intro H locs ls hP hD hA hS hl
  exact ⟨_, va_runSN (As := As) (rest := rest) C.1 (hM H.size) cw (k_pre (av := As) C hP hD hA hS) rfl hn hl hst (lv_room hr) hdg hf⟩
theorem k_payW (C : Cx p s m meth c cc nL args Ts own D cA A) {y : MethodName} {bytes : ByteArray} {maxL : Nat} {ret : Option FieldType} (hc : Cond.code y bytes maxL ret ∈ W0) : ∀ w ∈ wm y bytes maxL ret, w ∈ Ts ∧ ((w.onTables && w.keeps) = true ∨ ∃ ty, w = .arrayClass ty) := fun w h => by
  have h0 : w ∈ W0 := (List.mem_cons.mp h).elim (fun e => by rw [e]; exact hc) id
  exact ⟨C.2.2.2.2 w h0, good_of_word (W0_good w h0)⟩
/-- 'y' is no method handle's, and has n parameters -/
def okY (y : MethodName) (n : Nat) : Prop := y.cls ≠ "java/lang/invoke/MethodHandle" ∧ y.cls ≠ "java/lang/invoke/VarHandle" ∧ (parseMethodDescriptor y.desc).map (fun d => d.parameters.length) = some n
theorem k_cwB (C : Cx p s m meth c cc nL args Ts own D cA A) {y : MethodName} {bytes : ByteArray} {maxL index n mc ms : Nat} {ret : Option FieldType} {rm : Room} (hc : Cond.code y bytes maxL ret ∈ W0) (hl : Cond.methodLink own index y ∈ W0) (hini : Cond.initialized y.cls ∈ W0) (hd : okY y n) (hrc : rm.cells = mc) (hrs : rm.slots = ms) (hR : rm.frames + 1 ≤ R.frames ∧ 8 + (maxL + 11) + rm.locals ≤ R.locals) : CallB R s args own index y bytes maxL ret (wm y bytes maxL ret) rm mc ms n :=
  ⟨hrc, hrs, hR.1, hR.2, pay_in C.1.2.2.2.2 (k_payW C hc), List.mem_cons_self, C.w hc, C.w hini, ⟨hd.1, hd.2.1⟩, fun sig h => by
    have h2 := hd.2.2
    rw [h] at h2
    exact (Option.some.inj h2).symm, C.w hl⟩
theorem k_cwN (C : Cx p s m meth c cc nL args Ts own D cA A) {y : MethodName} {bytes : ByteArray} {maxL index n mc ms : Nat} {host : String} {ret : Option FieldType} {rm : Room} (hc : Cond.code y bytes maxL ret ∈ W0) (hl : va_Nw (.methodLinkNest own index y host) s) (hini : Cond.initialized y.cls ∈ W0) (hd : okY y n) (hrc : rm.cells = mc) (hrs : rm.slots = ms) (hR : rm.frames + 1 ≤ R.frames ∧ 8 + (maxL + 11) + rm.locals ≤ R.locals) : va_CN R s args own index y host bytes maxL ret (wm y bytes maxL ret) rm mc ms n :=
  ⟨⟨hrc, hrs, hR.1, hR.2, pay_in C.1.2.2.2.2 (k_payW C hc), List.mem_cons_self⟩, C.w hc, C.w hini, ⟨hd.1, hd.2.1⟩, fun sig h => by
    have h2 := hd.2.2
    rw [h] at h2
    exact (Option.some.inj h2).symm, va_Nw.use rfl hl⟩
theorem k_nest (C : Cx p s m meth c cc nL args Ts own D cA A) (i : Nat) {q : String × Nat × MethodName × String} (h : kN[i]? = some q) : va_Nw (.methodLinkNest q.1 q.2.1 q.2.2.1 q.2.2.2) s := C.2.1.2.1 q (List.mem_of_getElem? h)
theorem k_n0 (C : Cx p s m meth c cc nL args Ts own D cA A) : va_Nw (.methodLinkNest "WidowWatch$Book" 40 ⟨"WidowWatch", "copyRow", "([I[I)V"⟩ "WidowWatch") s := C.2.1.2.1 ("WidowWatch$Book", 40, ⟨"WidowWatch", "copyRow", "([I[I)V"⟩, "WidowWatch") (List.mem_of_getElem? (i := 0) rfl)
theorem k_n1 (C : Cx p s m meth c cc nL args Ts own D cA A) : va_Nw (.methodLinkNest "WidowWatch" 36 ⟨"WidowWatch$Reader", "<init>", "()V"⟩ "WidowWatch") s := C.2.1.2.1 ("WidowWatch", 36, ⟨"WidowWatch$Reader", "<init>", "()V"⟩, "WidowWatch") (List.mem_of_getElem? (i := 1) rfl)
theorem k_n2 (C : Cx p s m meth c cc nL args Ts own D cA A) : va_Nw (.methodLinkNest "WidowWatch" 43 ⟨"WidowWatch$Lines", "<init>", "()V"⟩ "WidowWatch") s := C.2.1.2.1 ("WidowWatch", 43, ⟨"WidowWatch$Lines", "<init>", "()V"⟩, "WidowWatch") (List.mem_of_getElem? (i := 2) rfl)
theorem k_n3 (C : Cx p s m meth c cc nL args Ts own D cA A) : va_Nw (.methodLinkNest "WidowWatch" 50 ⟨"WidowWatch$Planner", "<init>", "()V"⟩ "WidowWatch") s := C.2.1.2.1 ("WidowWatch", 50, ⟨"WidowWatch$Planner", "<init>", "()V"⟩, "WidowWatch") (List.mem_of_getElem? (i := 3) rfl)
theorem k_n4 (C : Cx p s m meth c cc nL args Ts own D cA A) : va_Nw (.methodLinkNest "WidowWatch" 57 ⟨"WidowWatch$Plan", "<init>", "()V"⟩ "WidowWatch") s := C.2.1.2.1 ("WidowWatch", 57, ⟨"WidowWatch$Plan", "<init>", "()V"⟩, "WidowWatch") (List.mem_of_getElem? (i := 4) rfl)
theorem k_n5 (C : Cx p s m meth c cc nL args Ts own D cA A) : va_Nw (.methodLinkNest "WidowWatch$Planner" 33 ⟨"WidowWatch", "put", "([III)V"⟩ "WidowWatch") s := C.2.1.2.1 ("WidowWatch$Planner", 33, ⟨"WidowWatch", "put", "([III)V"⟩, "WidowWatch") (List.mem_of_getElem? (i := 5) rfl)
theorem k_n6 (C : Cx p s m meth c cc nL args Ts own D cA A) : va_Nw (.methodLinkNest "WidowWatch$Book" 61 ⟨"WidowWatch", "get", "([II)I"⟩ "WidowWatch") s := C.2.1.2.1 ("WidowWatch$Book", 61, ⟨"WidowWatch", "get", "([II)I"⟩, "WidowWatch") (List.mem_of_getElem? (i := 6) rfl)
theorem k_n7 (C : Cx p s m meth c cc nL args Ts own D cA A) : va_Nw (.methodLinkNest "WidowWatch$Lines" 18 ⟨"WidowWatch", "get", "([II)I"⟩ "WidowWatch") s := C.2.1.2.1 ("WidowWatch$Lines", 18, ⟨"WidowWatch", "get", "([II)I"⟩, "WidowWatch") (List.mem_of_getElem? (i := 7) rfl)
theorem k_n8 (C : Cx p s m meth c cc nL args Ts own D cA A) : va_Nw (.methodLinkNest "WidowWatch$Planner" 50 ⟨"WidowWatch", "get", "([II)I"⟩ "WidowWatch") s := C.2.1.2.1 ("WidowWatch$Planner", 50, ⟨"WidowWatch", "get", "([II)I"⟩, "WidowWatch") (List.mem_of_getElem? (i := 8) rfl)
theorem k_n9 (C : Cx p s m meth c cc nL args Ts own D cA A) : va_Nw (.methodLinkNest "WidowWatch$Plan" 42 ⟨"WidowWatch", "get", "([II)I"⟩ "WidowWatch") s := C.2.1.2.1 ("WidowWatch$Plan", 42, ⟨"WidowWatch", "get", "([II)I"⟩, "WidowWatch") (List.mem_of_getElem? (i := 9) rfl)
theorem k_n10 (C : Cx p s m meth c cc nL args Ts own D cA A) : va_Nw (.methodLinkNest "WidowWatch$Plan" 34 ⟨"WidowWatch", "put", "([III)V"⟩ "WidowWatch") s := C.2.1.2.1 ("WidowWatch$Plan", 34, ⟨"WidowWatch", "put", "([III)V"⟩, "WidowWatch") (List.mem_of_getElem? (i := 10) rfl)
theorem k_n11 (C : Cx p s m meth c cc nL args Ts own D cA A) : va_Nw (.methodLinkNest "WidowWatch$Lines" 43 ⟨"WidowWatch", "put", "([III)V"⟩ "WidowWatch") s := C.2.1.2.1 ("WidowWatch$Lines", 43, ⟨"WidowWatch", "put", "([III)V"⟩, "WidowWatch") (List.mem_of_getElem? (i := 11) rfl)
theorem k_n12 (C : Cx p s m meth c cc nL args Ts own D cA A) : va_Nw (.methodLinkNest "WidowWatch$Reader" 124 ⟨"WidowWatch", "get", "([II)I"⟩ "WidowWatch") s := C.2.1.2.1 ("WidowWatch$Reader", 124, ⟨"WidowWatch", "get", "([II)I"⟩, "WidowWatch") (List.mem_of_getElem? (i := 12) rfl)
theorem k_n13 (C : Cx p s m meth c cc nL args Ts own D cA A) : va_Nw (.methodLinkNest "WidowWatch$Book" 65 ⟨"WidowWatch", "put", "([III)V"⟩ "WidowWatch") s := C.2.1.2.1 ("WidowWatch$Book", 65, ⟨"WidowWatch", "put", "([III)V"⟩, "WidowWatch") (List.mem_of_getElem? (i := 13) rfl)
theorem k_nar {v : Int32} (h : v = 0 ∨ v = 1) : narrow .boolean (.int v) = .int v := by rcases h with rfl | rfl <;> rfl
end KA
