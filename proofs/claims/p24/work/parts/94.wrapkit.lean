/-! THE LAW'S WRAPPERS: methods with a table of handlers -/
/-- what is thrown is not of these classes -/
def kNc : List (String × String) := [("java/lang/IllegalArgumentException", "java/lang/IndexOutOfBoundsException"), ("java/util/NoSuchElementException", "java/lang/IndexOutOfBoundsException"), ("java/util/NoSuchElementException", "java/lang/IllegalArgumentException"), ("java/lang/IllegalStateException", "java/lang/IllegalArgumentException"), ("java/lang/IllegalStateException", "java/lang/IndexOutOfBoundsException")]
def EvY (D : va_G) (cA : Nat → ClassId) (A : Nat → Prop) (U : State) (H : Heap) : Prop := EvX D cA A U H ∧ ∀ q ∈ kNc, va_Nc q.1 q.2 U
theorem EvY.calling {D : va_G} {cA : Nat → ClassId} {A : Nat → Prop} {U : State} {H : Heap} (h : EvY D cA A U H) (g : JFrame) (mk : MethodId) (a : Array Value) : EvY D cA A (U.calling g mk a) H :=
  ⟨h.1.calling g mk a, fun q hq => va_Nc.moved (u := U) (U := U.calling g mk a) (Vm.Alike.refl U.vm) (h.2 q hq)⟩
theorem EvY.warm {D : va_G} {cA : Nat → ClassId} {A A' : Nat → Prop} {s U : State} {H : Heap} {locs : List Loc} (h : EvY D cA A s s.heap) (hW : s.WarmedH U.vm) (hS : va_S A s.heap H locs) (hA : ∀ q, A' q → A q) : EvY D cA A' U H :=
  ⟨h.1.warm hW hS hA, fun q hq => va_Nc.moved hW.alike (h.2 q hq)⟩
/-- the contract of a wrapper: it returns -/
def ConY (l : Launch) (D : va_G) (cA : Nat → ClassId) (y : MethodName) (wy : List Cond) (rm : Room) (wc : va_W) (av : List Value) (mc ms : Nat) (Post : Option Value → va_W → Prop) : Prop :=
  ∀ sz : Nat, vx_Met l y wy rm (va_Pc av (fun U => U.heap.size = sz ∧ va_P D vwCl wc U.heap ∧ EvY D cA (va_A wc sz) U U.heap ∧ va_D (fun _ => True) wc)) (QC D wc sz Post) (QX D wc sz (fun _ _ => False)) mc ms (va_A wc sz)
abbrev wmW (y : MethodName) (cc : ByteArray) (n : Nat) (ret : Option FieldType) (hh : List (Nat × Nat × Nat × Nat)) : List Cond := Cond.codeWith y cc n ret hh :: W0
theorem setAll_pre : ∀ (w1 wc pre wr : va_W), w1.length = wc.length → setAll (pre ++ (wc ++ wr)) (List.range' pre.length wc.length) w1 = pre ++ (w1 ++ wr)
  | [], [], pre, wr, _ => by simp [setAll]
  | [], _ :: _, _, _, h => by cases h
  | _ :: _, [], _, _, h => by cases h
  | c :: cs, d :: ds, pre, wr, h => by
    have ih := setAll_pre cs ds (pre ++ [c]) wr (Nat.succ.inj h)
    rw [List.length_cons, List.range'_succ, setAll]
    rw [List.length_append, List.length_singleton] at ih
    have e : (pre ++ (d :: ds ++ wr)).set pre.length c = (pre ++ [c]) ++ (ds ++ wr) := by
      rw [List.set_append_right _ _ (Nat.le_refl _), Nat.sub_self]
      simp
    rw [e, ih]
    simp
theorem setAll_0 {is : List Nat} {w1 : va_W} (wc wr : va_W) (h : w1.length = wc.length) (hi : is = List.range' 0 wc.length) : setAll (wc ++ wr) is w1 = w1 ++ wr := by
  subst hi
  exact setAll_pre w1 wc [] wr h
section KY
variable {p : Program} {l : Launch} {e : Env} {R : Room} {s : State} {m : MethodId} {args : Array Value} {below : List Frame} {meth : Method} {c : Code} {D : va_G} {A : Nat → Prop} {nL cells slots : Nat} {Q : State → Prop} {ws : va_W} {pc : Nat} {lv : List (Nat × Value)} {st : List Value}
variable {cc : ByteArray} {Ts : List Cond} {own : String} {cA : Nat → ClassId}
theorem ConY.of {y : MethodName} {rm : Room} {wc : va_W} {av : List Value} {mc ms maxL : Nat} {Post : Option Value → va_W → Prop} {ret : Option FieldType} {hh : List (Nat × Nat × Nat × Nat)} (hy : plainName y.cls = true) (hav : (lg_sl av).length ≤ maxL)
    (body : ∀ (p : Program) (e : Env) (s : State) (m : MethodId) (args : Array Value) (below : List Frame) (meth : Method) (c : Code), Cx p s m meth c cc maxL args (wmW y cc maxL ret hh) y.cls D cA (va_A wc s.heap.size) → EvY D cA (va_A wc s.heap.size) s s.heap → c.exceptionTable.toList = tableOf hh → meth.sig.returnType = ret →
      Kf p l e rm s m args below meth c D (va_A wc s.heap.size) maxL 0 0 (vx_MQ below (QC D wc s.heap.size Post) (QX D wc s.heap.size (fun _ _ => False)) args s mc ms (va_A wc s.heap.size)) wc 0 (lv_args 0 av) []) : ConY l D cA y (wmW y cc maxL ret hh) rm wc av mc ms Post := by
  intro sz
  refine vx_ofWH (cc := cc) (maxL := maxL) (ret := ret) (hh := hh) (ws' := W0) hy rfl ?_
  intro p e s m args below meth c s₁ B hml hv
  obtain ⟨rfl, hsz, hP, hE, hD0⟩ := hv
  subst hsz
  have hts := atoms_spec (ws := wmW y cc maxL ret hh) B.pre
  have hown : s.vm.findClass y.cls = some m.cls := findClass_of_methodNamed B.named
  have hT := vx_table (x := y) B (hts _ List.mem_cons_self)
  rw [lg_entry_eq]
  exact body p e s m av.toArray below meth c ⟨⟨B.exec, B.bytes, hml, hown, hts⟩, hE.1.1, fun q h => Or.inr h, B.notSynchronized, fun _ h => List.mem_cons_of_mem _ h⟩ hE hT B.returns s.heap [] _ hP hD0.self va_S.rf (lv_entry av hav)
/-- caught here -/
theorem ky_catch (C : Cx p s m meth c cc nL args Ts own D cA A) {E name : String} {hh pre suf : List (Nat × Nat × Nat × Nat)} (x : Nat × Nat × Nat × Nat) {rest : List Value} (hT : c.exceptionTable.toList = tableOf hh) (hs : hh = pre ++ x :: suf) (hpass : ∀ z ∈ pre, z.2.2.2 ≠ 0 ∧ ∃ nm : String, Cond.classLink own z.2.2.2 nm ∈ W0 ∧ va_Nc E nm s) (h1 : covers ⟨x.1, x.2.1, x.2.2.1, x.2.2.2⟩ pc = true) (h0 : x.2.2.2 ≠ 0)
    (hl : Cond.classLink own x.2.2.2 name ∈ W0) (hc : (Cond.castable E name).before args s = true) (kk : ∀ q : Nat, Kf p l e R s m args below meth c D A nL cells slots Q ws x.2.2.1 lv [.ref q]) : KXf p l e R s m args below meth c D A nL cells slots Q ws pc lv rest E :=
  fun H locs ls q ce hP hD hS hl' hce hv hcl => vx_catch C.1.2.2.2.1 (tableOf pre) ⟨x.1, x.2.1, x.2.2.1, x.2.2.2⟩ (tableOf suf) (by rw [hT, hs]; simp [tableOf]) (fun z hz => by
    unfold tableOf at hz
    obtain ⟨y, hy, rfl⟩ := List.mem_map.mp hz
    obtain ⟨g0, nm, g1, g2⟩ := hpass y hy
    exact Or.inr ⟨g0, nm, C.w g1, g2⟩) h1 h0 (C.w hl) hc hce hv hcl (kk q H locs ls hP hD hS hl')
theorem ky_pre {wc : va_W} {H : Heap} {locs : List Loc} {av : List Value} (hE : EvY D cA A s s.heap) (hP : va_P D vwCl wc H) (hD : va_D (fun _ => True) wc) (hA : ∀ q, va_A wc H.size q → A q) (hS : va_S A s.heap H locs) : FrameBlind (va_Pc av (fun U => U.heap.size = H.size ∧ va_P D vwCl wc U.heap ∧ EvY D cA (va_A wc H.size) U U.heap ∧ va_D (fun _ => True) wc)) ∧ ∀ U : State, U.heap = H → s.WarmedH U.vm → va_Pc av (fun U => U.heap.size = H.size ∧ va_P D vwCl wc U.heap ∧ EvY D cA (va_A wc H.size) U U.heap ∧ va_D (fun _ => True) wc) av.toArray U :=
  ⟨fun a U g mk q => ⟨q.1, q.2.1, q.2.2.1, EvY.calling q.2.2.2.1 g mk a, q.2.2.2.2⟩, fun U hU hW => ⟨rfl, by rw [hU], by rw [hU]; exact hP, by rw [hU]; exact hE.warm hW hS hA, hD⟩⟩
/-- a wrapper is called -/
theorem ky_runS (C : Cx p s m meth c cc nL args Ts own D cA A) (hE : EvY D cA A s s.heap) {y : MethodName} {bytes : ByteArray} {maxL index n mc ms : Nat} {ret : Option FieldType} {hh : List (Nat × Nat × Nat × Nat)} {wy : List Cond} {rm : Room} {wc : va_W} {As st0 rest : List Value} {Post : Option Value → va_W → Prop} (hM : ConY l D cA y wy rm wc As mc ms Post) (cw : vx_CSW R s args own index y bytes maxL ret hh wy rm mc ms n) (hn : As.length = n) (hst : st0 = As.reverse ++ rest) (hr : (rest.map fun v => v.category).sum ≤ 8) (hdg : decode cc pc = .ok (.invokestatic index, 3)) (hf : cells + mc ≤ R.cells ∧ slots + ms ≤ R.slots) : KRX p l e R s m args below meth c D A nL cells slots pc st0 rest wc mc ms Post (fun _ _ => False) := by
  intro H locs ls hP hD hA hS hl
  exact ⟨_, vx_runSX (As := As) (rest := rest) C.1 (hM H.size) cw (ky_pre (av := As) hE hP hD hA hS) rfl hn hl hst (lv_room hr) hdg hf⟩
end KY
