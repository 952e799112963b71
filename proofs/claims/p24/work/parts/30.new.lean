
/-! NEW OBJECTS AND ARRAYS: rows over the K judgement; what the constructors take of the machine beside Ev (FN); several dimensions at once. -/
/-- the classes of arrays of references are made -/
def kPv : List MethodName := [⟨"java/lang/AbstractStringBuilder", "ensureCapacityInternal", "(I)V"⟩, ⟨"java/lang/AbstractStringBuilder", "putStringAt", "(ILjava/lang/String;)V"⟩, ⟨"java/lang/AbstractStringBuilder", "inflateIfNeededFor", "(Ljava/lang/String;)V"⟩]
theorem kPv_ok : ∀ y ∈ kPv, y.cls ≠ "java/lang/invoke/MethodHandle" ∧ y.cls ≠ "java/lang/invoke/VarHandle" := by decide +kernel
def FN (U : State) : Prop := va_AO "WidowWatch$Book" U ∧ va_AO "WidowWatchLaw$Para" U ∧ va_AO "WidowWatchLaw$Book" U ∧ va_Nw (.castable "[I" "java/lang/Cloneable") U ∧ ∀ y ∈ kPv, va_Nw (.selects "java/lang/StringBuilder" y y) U
theorem FN.moved {u U : State} (hvm : u.vm.Alike U.vm) (h : FN u) : FN U := ⟨h.1.moved hvm, h.2.1.moved hvm, h.2.2.1.moved hvm, va_tabs rfl (rfl : (u.setVm U.vm).vm = U.vm) (by rw [Cond.castable_setVm hvm]; exact h.2.2.2.1), fun y hy => va_tabs rfl (rfl : (u.setVm U.vm).vm = U.vm) (by
  have h9 : (Cond.selects "java/lang/StringBuilder" y y).before #[] u = true := h.2.2.2.2 y hy
  obtain ⟨c, r, m, -, -, hm, -⟩ := Cond.selects_spec h9
  rw [Cond.selects_setVm hvm hm (kPv_ok y hy)]
  exact h9)⟩
/-- a constructor's contract -/
def ConN (l : Launch) (D : va_G) (cA : Nat → ClassId) (y : MethodName) (wy : List Cond) (rm : Room) (wc : va_W) (av : List Value) (mc ms : Nat) (Post : Option Value → va_W → Prop) : Prop :=
  ∀ sz : Nat, Met l y wy rm (va_Pc av (fun U => U.heap.size = sz ∧ va_P D vwCl wc U.heap ∧ (Ev D cA (va_A wc sz) U U.heap ∧ FN U) ∧ va_D (fun _ => True) wc)) (QC D wc sz Post) mc ms (va_A wc sz)
theorem va_P.perm {D : va_G} {cl : List vw_C} {ws ws' : va_W} {H : Heap} (h : ws.Perm ws') (hP : va_P D cl ws H) : va_P D cl ws' H := fun k q hk => by
  obtain ⟨i, hi⟩ := List.getElem?_of_mem (h.mem_iff.mpr (List.mem_of_getElem? hk))
  exact hP i q hi
theorem va_D_iff {A : Nat → Prop} {ws : va_W} : va_D A ws ↔ ws.Pairwise (fun p q => p.1 ≠ q.1) ∧ ∀ q ∈ ws, A q.1 := by
  constructor
  · intro h
    refine ⟨List.pairwise_iff_getElem.mpr fun i j hi hj hij e => ?_, fun q hq => ?_⟩
    · have := h.1 i j _ _ (List.getElem?_eq_getElem hi) (List.getElem?_eq_getElem hj) e
      omega
    · obtain ⟨i, hi⟩ := List.getElem?_of_mem hq
      exact h.2 i q hi
  · intro h
    refine ⟨fun i j p q hi hj e => ?_, fun k q hk => h.2 q (List.mem_of_getElem? hk)⟩
    obtain ⟨hi', rfl⟩ := List.getElem?_eq_some_iff.mp hi
    obtain ⟨hj', rfl⟩ := List.getElem?_eq_some_iff.mp hj
    rcases Nat.lt_trichotomy i j with hlt | heq | hgt
    · exact absurd e (List.pairwise_iff_getElem.mp h.1 i j hi' hj' hlt)
    · exact heq
    · exact absurd e.symm (List.pairwise_iff_getElem.mp h.1 j i hj' hi' hgt)
theorem va_D.perm {A : Nat → Prop} {ws ws' : va_W} (h : ws.Perm ws') (hD : va_D A ws) : va_D A ws' := by
  rw [va_D_iff] at hD ⊢
  exact ⟨(h.pairwise_iff (fun {x y} (e : x.1 ≠ y.1) => Ne.symm e)).mp hD.1, fun q hq => hD.2 q (h.mem_iff.mpr hq)⟩
section KN
variable {p : Program} {l : Launch} {e : Env} {R : Room} {s : State} {m : MethodId} {args : Array Value} {below : List Frame} {meth : Method} {c : Code} {D : va_G} {A : Nat → Prop} {nL cells slots : Nat} {Q : State → Prop} {ws : va_W} {pc : Nat} {lv : List (Nat × Value)} {st : List Value}
variable {cc : ByteArray} {Ts : List Cond} {own : String} {cA : Nat → ClassId}
theorem k_perm {ws' : va_W} (h : ws.Perm ws') (kk : Kf p l e R s m args below meth c D A nL cells slots Q ws' pc lv st) : Kf p l e R s m args below meth c D A nL cells slots Q ws pc lv st :=
  fun H locs ls hP hD hS hl => kk H locs ls (hP.perm h) (hD.perm h) hS hl
theorem ConN.of {y : MethodName} {rm : Room} {wc : va_W} {av : List Value} {mc ms maxL : Nat} {Post : Option Value → va_W → Prop} {ret : Option FieldType} (hy : plainName y.cls = true) (hav : (lg_sl av).length ≤ maxL)
    (body : ∀ (p : Program) (e : Env) (s : State) (m : MethodId) (args : Array Value) (below : List Frame) (meth : Method) (c : Code), Cx p s m meth c cc maxL args (wm y cc maxL ret) y.cls D cA (va_A wc s.heap.size) → FN s → meth.sig.returnType = ret → meth.name = y.name →
      Kf p l e rm s m args below meth c D (va_A wc s.heap.size) maxL 0 0 (MQ below (QC D wc s.heap.size Post) args s mc ms (va_A wc s.heap.size)) wc 0 (lv_args 0 av) []) : ConN l D cA y (wm y cc maxL ret) rm wc av mc ms Post := by
  intro sz
  refine Met.ofW (cc := cc) (maxL := maxL) (ret := ret) (ws' := W0) hy rfl ?_
  intro p e s m args below meth c s₁ B hml hv
  obtain ⟨rfl, hsz, hP, hE, hD0⟩ := hv
  subst hsz
  have hts := atoms_spec (ws := wm y cc maxL ret) B.pre
  have hown : s.vm.findClass y.cls = some m.cls := findClass_of_methodNamed B.named
  rw [lg_entry_eq]
  exact body p e s m av.toArray below meth c ⟨⟨B.exec, B.bytes, hml, hown, hts⟩, hE.1, fun q h => Or.inr h, B.notSynchronized, fun _ h => List.mem_cons_of_mem _ h⟩ hE.2 B.returns (name_of_methodNamed B.named B.method).1 s.heap [] _ hP hD0.self va_S.rf (lv_entry av hav)
theorem k_preN {wc : va_W} {H : Heap} {locs : List Loc} {av : List Value} (C : Cx p s m meth c cc nL args Ts own D cA A) (hF : FN s) (hP : va_P D vwCl wc H) (hD : va_D (fun _ => True) wc) (hA : ∀ q, va_A wc H.size q → A q) (hS : va_S A s.heap H locs) : FrameBlind (va_Pc av (fun U => U.heap.size = H.size ∧ va_P D vwCl wc U.heap ∧ (Ev D cA (va_A wc H.size) U U.heap ∧ FN U) ∧ va_D (fun _ => True) wc)) ∧ ∀ U : State, U.heap = H → s.WarmedH U.vm → va_Pc av (fun U => U.heap.size = H.size ∧ va_P D vwCl wc U.heap ∧ (Ev D cA (va_A wc H.size) U U.heap ∧ FN U) ∧ va_D (fun _ => True) wc) av.toArray U :=
  ⟨fun a U g mk q => ⟨q.1, q.2.1, q.2.2.1, ⟨Ev.calling q.2.2.2.1.1 g mk a, FN.moved (u := U) (U := U.calling g mk a) (Vm.Alike.refl U.vm) q.2.2.2.1.2⟩, q.2.2.2.2⟩, fun U hU hW => ⟨rfl, by rw [hU], by rw [hU]; exact hP, ⟨by rw [hU]; exact C.2.1.warm hW hS hA, hF.moved hW.alike⟩, hD⟩⟩
theorem k_runIC (C : Cx p s m meth c cc nL args Ts own D cA A) (hF : FN s) {y : MethodName} {bytes : ByteArray} {maxL index n mc ms b : Nat} {wy : List Cond} {rm : Room} {wc : va_W} {As st0 rest : List Value} {Post : Option Value → va_W → Prop} (hM : ConN l D cA y wy rm wc (.ref b :: As) mc ms Post) (cw : CallB R s args own index y bytes maxL none wy rm mc ms n ∧ y.name = "<init>" ∧ (Cond.instanceMethod y).before args s = true) (hn : As.length = n) (hst : st0 = As.reverse ++ .ref b :: rest) (hr : (rest.map fun v => v.category).sum ≤ 8) (hdg : decode cc pc = .ok (.invokespecial index, 3)) (hf : cells + mc ≤ R.cells ∧ slots + ms ≤ R.slots) : KR p l e R s m args below meth c D A nL cells slots pc st0 rest wc mc ms Post := by
  intro H locs ls hP hD hA hS hl
  exact ⟨_, va_runI (As := As) (rest := rest) C.1 (hM H.size) cw (k_preN (av := .ref b :: As) C hF hP hD hA hS) rfl hn hl hst (lv_room hr) hdg hf⟩
theorem k_runIN (C : Cx p s m meth c cc nL args Ts own D cA A) {y : MethodName} {bytes : ByteArray} {maxL index n mc ms b : Nat} {wy : List Cond} {rm : Room} {host : String} {wc : va_W} {As st0 rest : List Value} {Post : Option Value → va_W → Prop} (hM : Con l D cA y wy rm wc (.ref b :: As) mc ms Post) (cw : va_CN R s args own index y host bytes maxL none wy rm mc ms n ∧ y.name = "<init>" ∧ (Cond.instanceMethod y).before args s = true) (hn : As.length = n) (hst : st0 = As.reverse ++ .ref b :: rest) (hr : (rest.map fun v => v.category).sum ≤ 8) (hdg : decode cc pc = .ok (.invokespecial index, 3)) (hf : cells + mc ≤ R.cells ∧ slots + ms ≤ R.slots) : KR p l e R s m args below meth c D A nL cells slots pc st0 rest wc mc ms Post := by
  intro H locs ls hP hD hA hS hl
  exact ⟨_, va_runIN (As := As) (rest := rest) C.1 (hM H.size) cw (k_pre (av := .ref b :: As) C hP hD hA hS) rfl hn hl hst (lv_room hr) hdg hf⟩
theorem k_objInit (C : Cx p s m meth c cc nL args Ts own D cA A) {idx a : Nat} (hlink : Cond.methodLink own idx Lib.objectInit ∈ W0) (hr : (st.map fun v => v.category).sum ≤ 8) (hframes : 1 ≤ R.frames) (hlocals : 20 ≤ R.locals) (hdg : decode cc pc = .ok (.invokespecial idx, 3)) (kk : Kf p l e R s m args below meth c D A nL cells slots Q ws (pc + 3) lv st) : Kf p l e R s m args below meth c D A nL cells slots Q ws pc lv (.ref a :: st) :=
  fun H locs ls hP hD hS hl => W.objInit (idx := idx) C.1.1 C.1.2.1 C.1.2.2.2.1 (C.w hlink) (C.w tW_1_37) (C.w tW_1_38) rfl (hl.1.trans C.1.2.2.1.symm) rfl hdg hframes (by show 2 * 0 + (st.map fun v => v.category).sum + 12 ≤ R.locals; omega) (kk H locs ls hP hD hS hl)
theorem k_new (C : Cx p s m meth c cc nL args Ts own D cA A) {Cn : String} {T : u_T} {N ci index : Nat} {fs : List Value} (hin : ∀ w ∈ u_ws Cn T N, w ∈ W0) (ty0 : Nat → FieldType) (hty : ∀ k, k < N → parseFieldDescriptor (T k).2.2.1 = some (ty0 k)) (hcl : Cond.classLink own index Cn ∈ W0) (hinst : Cond.instantiable Cn N ∈ W0) (hini : Cond.initialized Cn ∈ W0) (hc : vwCl[ci]? = some (Cn, T, N)) (hfs : ∀ j, j < N → defaultValue (ty0 j) = vp_V fs j) (hcells : cells + 1 ≤ R.cells) (hslots : slots + N ≤ R.slots) (hdg : decode cc pc = .ok (.new index, 3))
    (kk : ∀ q : Nat, Kf p l e R s m args below meth c D A nL (cells + 1) (slots + N) Q (ws ++ [(q, .inr (ci, fs))]) (pc + 3) lv (.ref q :: st)) : Kf p l e R s m args below meth c D A nL cells slots Q ws pc lv st :=
  fun H locs ls hP hD hS hl => va_new C.1.1 C.1.2.1 C.1.2.2.2.2 (fun w h => C.2.2.2.2 w (hin w h)) ty0 hty C.1.2.2.2.1 (C.w hcl) (C.w hinst) (C.w hini) C.2.1.1 hP hD hS C.2.2.1 hc hfs hcells hslots hdg (fun q H1 hP hD hS => kk q H1 locs ls hP hD hS hl)
theorem k_newa (C : Cx p s m meth c cc nL args Ts own D cA A) {n : Int32} {N : Nat} (hn : ¬ n < 0) (hN : n.toNatClampNeg = N) (hbytes : N * 4 ≤ 536870912) (hcells : cells + 1 ≤ R.cells) (hslots : slots + N ≤ R.slots) (hdg : decode cc pc = .ok (.newarray .int, 2))
    (kk : ∀ q : Nat, Kf p l e R s m args below meth c D A nL (cells + 1) (slots + N) Q (ws ++ [(q, .inl (cA 0, N, .inl (fun _ => 0)))]) (pc + 2) lv (.ref q :: st)) : Kf p l e R s m args below meth c D A nL cells slots Q ws pc lv (.int n :: st) :=
  fun H locs ls hP hD hS hl => va_newa (atype := .int) (ty := .int) (a0 := (N, .inl (fun _ => 0))) C.1.1 C.1.2.1 (C.w tW_1_86) rfl C.2.1.1 hP hD hS C.2.2.1 (fun _ => rfl) hn hN hbytes hcells hslots hdg (fun q cB H1 hK hP hD hS => by
    have h1 : s.vm.findClass ("[" ++ FieldType.int.toString) = some cB := (hK.2 5 (cB, .int) rfl).2
    have h2 : s.vm.findClass ("[" ++ FieldType.int.toString) = some (cA 0) := (C.2.1.1.2 0 (cA 0, .int) rfl).2
    cases Option.some.inj (h1.symm.trans h2)
    exact kk q H1 locs ls hP hD hS hl)
theorem k_newb (C : Cx p s m meth c cc nL args Ts own D cA A) (hF : FN s) {index : Nat} (hcl : Cond.classLink own index "WidowWatch$Book" ∈ W0) {n : Int32} {N : Nat} (hn : ¬ n < 0) (hN : n.toNatClampNeg = N) (hbytes : N * 4 ≤ 536870912) (hcells : cells + 1 ≤ R.cells) (hslots : slots + N ≤ R.slots) (hdg : decode cc pc = .ok (.anewarray index, 3))
    (kk : ∀ q : Nat, Kf p l e R s m args below meth c D A nL (cells + 1) (slots + N) Q (ws ++ [(q, .inl (cA 1, N, .inr (.inr (.inr (.inr (fun _ => none))))))]) (pc + 3) lv (.ref q :: st)) : Kf p l e R s m args below meth c D A nL cells slots Q ws pc lv (.int n :: st) :=
  fun H locs ls hP hD hS hl => va_newq C.1.1 C.1.2.1 C.1.2.2.2.1 (C.w hcl) hF.1 C.2.1.1 hP hD hS C.2.2.1 hn hN hbytes hcells hslots hdg (fun q cB H1 hK hP hD hS => by
    obtain ⟨-, -, -, -, -, h1⟩ := (hK.2 5 (cB, .object "WidowWatch$Book") rfl).2
    obtain ⟨-, -, -, -, -, h2⟩ := (C.2.1.1.2 1 (cA 1, .object "WidowWatch$Book") rfl).2
    cases Option.some.inj (h1.symm.trans h2)
    exact kk q H1 locs ls hP hD hS hl)
theorem k_astq (C : Cx p s m meth c cc nL args Ts own D cA A) {a n y : Nat} {f : Nat → Option Nat} {i : Int32} {fs : List Value} {ws' : va_W} (q0 q1 : Nat) (ha : ws[q0]? = some (a, .inl (cA 1, n, .inr (.inr (.inr (.inr f)))))) (hy : ws[q1]? = some (y, .inr (0, fs))) (hin : vp_in i n) (hws : ws.set q0 (a, .inl (cA 1, n, .inr (.inr (.inr (.inr (va_up f i.toNatClampNeg (some y))))))) = ws') (hdg : decode cc pc = .ok (.aastore, 1))
    (kk : Kf p l e R s m args below meth c D A nL cells slots Q ws' (pc + 1) lv st) : Kf p l e R s m args below meth c D A nL cells slots Q ws pc lv (.ref y :: .int i :: .ref a :: st) := by
  subst hws
  exact fun H locs ls hP hD hS hl => va_astq (r := (RX0, TX0, 7)) C.1.1 C.1.2.1 C.2.1.1 hP hD hS q0 1 q1 0 ha rfl hy rfl hin hdg (fun H locs hP hD hS => kk H locs ls hP hD hS hl)
theorem arrV_congr {k : ClassId} {n : Nat} {f g : Nat → Value} (h : ∀ j, j < n → f j = g j) : arrV k n f = arrV k n g := by
  show ({ cls := k, slots := Array.ofFn (n := n) fun j => f j.val, vm := .none } : Cell) = { cls := k, slots := Array.ofFn (n := n) fun j => g j.val, vm := .none }
  have e : (fun j : Fin n => f j.val) = fun j => g j.val := funext fun j => h j.val j.isLt
  rw [e]
theorem k_acong {a n : Nat} {k : ClassId} {f g : Nat → Option Nat} {ws' : va_W} (q0 : Nat) (ha : ws[q0]? = some (a, .inl (k, n, .inr (.inr (.inr (.inr f)))))) (hfg : ∀ j, j < n → f j = g j) (hws : ws.set q0 (a, .inl (k, n, .inr (.inr (.inr (.inr g))))) = ws') (kk : Kf p l e R s m args below meth c D A nL cells slots Q ws' pc lv st) : Kf p l e R s m args below meth c D A nL cells slots Q ws pc lv st := by
  subst hws
  refine fun H locs ls hP hD hS hl => kk H locs ls (hP.set hD ha ?_ (fun _ _ => rfl)) (hD.set ha) hS hl
  show H[a]? = some (vp_cell _ _)
  have h0 : H[a]? = some (vp_cell _ _) := hP q0 _ ha
  rw [h0, vp_cell_q, vp_cell_q, arrV_congr (fun j hj => by rw [hfg j hj])]
end KN
