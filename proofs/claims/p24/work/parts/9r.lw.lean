/-! THE LAW'S METHODS OVER THE CLASS AND ITS OWN CELLS: they call wrappers, the class, each other -/
def ConW (l : Launch) (D : va_G) (cA : Nat → ClassId) (y : MethodName) (wy : List Cond) (rm : Room) (wc : va_W) (av : List Value) (mc ms : Nat) (Post : Option Value → va_W → Prop) : Prop :=
  ∀ sz : Nat, Met l y wy rm (va_Pc av (fun U => U.heap.size = sz ∧ va_P D vwCl wc U.heap ∧ (EvY D cA (va_A wc sz) U U.heap ∧ FN U) ∧ va_D (fun _ => True) wc)) (QC D wc sz Post) mc ms (va_A wc sz)
theorem kw_rm {u k x cB : Nat} {R : Room} (h : u + k ≤ cB) (hx : x ≤ 16 * k) (hR : cB ≤ R.cells ∧ 16 * cB ≤ R.slots) : u + k ≤ R.cells ∧ 16 * u + x ≤ R.slots := ⟨Nat.le_trans h hR.1, by have := hR.2; omega⟩
section KWS
variable {p : Program} {l : Launch} {e : Env} {R : Room} {s : State} {m : MethodId} {args : Array Value} {below : List Frame} {meth : Method} {c : Code} {D : va_G} {A : Nat → Prop} {nL cells slots : Nat} {Q : State → Prop} {ws : va_W} {pc : Nat} {lv : List (Nat × Value)} {st : List Value}
variable {cc : ByteArray} {Ts : List Cond} {own : String} {cA : Nat → ClassId}
theorem ConW.of {y : MethodName} {rm : Room} {wc : va_W} {av : List Value} {mc ms maxL : Nat} {Post : Option Value → va_W → Prop} {ret : Option FieldType} (hy : plainName y.cls = true) (hav : (lg_sl av).length ≤ maxL)
    (body : ∀ (p : Program) (e : Env) (s : State) (m : MethodId) (args : Array Value) (below : List Frame) (meth : Method) (c : Code), Cx p s m meth c cc maxL args (wm y cc maxL ret) y.cls D cA (va_A wc s.heap.size) → EvY D cA (va_A wc s.heap.size) s s.heap → FN s → meth.sig.returnType = ret → meth.name = y.name →
      Kf p l e rm s m args below meth c D (va_A wc s.heap.size) maxL 0 0 (MQ below (QC D wc s.heap.size Post) args s mc ms (va_A wc s.heap.size)) wc 0 (lv_args 0 av) []) : ConW l D cA y (wm y cc maxL ret) rm wc av mc ms Post := by
  intro sz
  refine Met.ofW (cc := cc) (maxL := maxL) (ret := ret) (ws' := W0) hy rfl ?_
  intro p e s m args below meth c s₁ B hml hv
  obtain ⟨rfl, hsz, hP, hE, hD0⟩ := hv
  subst hsz
  have hts := atoms_spec (ws := wm y cc maxL ret) B.pre
  have hown : s.vm.findClass y.cls = some m.cls := findClass_of_methodNamed B.named
  rw [lg_entry_eq]
  exact body p e s m av.toArray below meth c ⟨⟨B.exec, B.bytes, hml, hown, hts⟩, hE.1.1.1, fun q h => Or.inr h, B.notSynchronized, fun _ h => List.mem_cons_of_mem _ h⟩ hE.1 hE.2 B.returns (name_of_methodNamed B.named B.method).1 s.heap [] _ hP hD0.self va_S.rf (lv_entry av hav)
theorem kw_pre {wc : va_W} {H : Heap} {locs : List Loc} {av : List Value} (hE : EvY D cA A s s.heap) (hF : FN s) (hP : va_P D vwCl wc H) (hD : va_D (fun _ => True) wc) (hA : ∀ q, va_A wc H.size q → A q) (hS : va_S A s.heap H locs) : FrameBlind (va_Pc av (fun U => U.heap.size = H.size ∧ va_P D vwCl wc U.heap ∧ (EvY D cA (va_A wc H.size) U U.heap ∧ FN U) ∧ va_D (fun _ => True) wc)) ∧ ∀ U : State, U.heap = H → s.WarmedH U.vm → va_Pc av (fun U => U.heap.size = H.size ∧ va_P D vwCl wc U.heap ∧ (EvY D cA (va_A wc H.size) U U.heap ∧ FN U) ∧ va_D (fun _ => True) wc) av.toArray U :=
  ⟨fun a U g mk q => ⟨q.1, q.2.1, q.2.2.1, ⟨EvY.calling q.2.2.2.1.1 g mk a, FN.moved (u := U) (U := U.calling g mk a) (Vm.Alike.refl U.vm) q.2.2.2.1.2⟩, q.2.2.2.2⟩, fun U hU hW => ⟨rfl, by rw [hU], by rw [hU]; exact hP, ⟨by rw [hU]; exact hE.warm hW hS hA, hF.moved hW.alike⟩, hD⟩⟩
theorem kw_runS (C : Cx p s m meth c cc nL args Ts own D cA A) (hE : EvY D cA A s s.heap) (hF : FN s) {y : MethodName} {bytes : ByteArray} {maxL index n mc ms : Nat} {ret : Option FieldType} {wy : List Cond} {rm : Room} {wc : va_W} {As st0 rest : List Value} {Post : Option Value → va_W → Prop} (hM : ConW l D cA y wy rm wc As mc ms Post) (cw : CallB R s args own index y bytes maxL ret wy rm mc ms n ∧ (Cond.static y).before args s = true) (hn : As.length = n) (hst : st0 = As.reverse ++ rest) (hr : (rest.map fun v => v.category).sum ≤ 8) (hdg : decode cc pc = .ok (.invokestatic index, 3)) (hf : cells + mc ≤ R.cells ∧ slots + ms ≤ R.slots) : KR p l e R s m args below meth c D A nL cells slots pc st0 rest wc mc ms Post := by
  intro H locs ls hP hD hA hS hl
  exact ⟨_, va_runS (As := As) (rest := rest) C.1 (hM H.size) cw (kw_pre (av := As) hE hF hP hD hA hS) rfl hn hl hst (lv_room hr) hdg hf⟩
/-- what doesn't throw, over the whole world -/
theorem ky_callA {mc ms : Nat} {st0 rest : List Value} {Post : Option Value → va_W → Prop} (C : Cx p s m meth c cc nL args Ts own D cA A) (hr : KRX p l e R s m args below meth c D A nL cells slots pc st0 rest ws mc ms Post (fun _ _ => False))
    (kk : ∀ (v : Option Value) (w1 : va_W), Post v w1 → Kf p l e R s m args below meth c D A nL (cells + mc) (slots + ms) Q w1 (pc + 3) lv (v.toList ++ rest)) : Kf p l e R s m args below meth c D A nL cells slots Q ws pc lv st0 := by
  intro H locs ls hP hD hS hl
  have hFc : ∀ q, va_A ws H.size q → A q := fun q h => by
    rcases h with ⟨k, e, h⟩ | h
    · exact hD.2 k (q, e) h
    · exact C.2.2.1 q (Nat.le_trans hS.1 h)
  obtain ⟨av, hr⟩ := hr H locs ls hP (hD.weaken (fun _ _ _ _ => trivial)) hFc hS hl.1
  intro T hT X
  rcases hr T hT X with ⟨v, st₀, t, T', L, h0, X', hL, e1, e2, ⟨⟨v', w1, hv, hp, hP1, hD1⟩, hz, hk⟩, stp⟩ | ⟨q, st₀, t, T', L, E, ce, h0, X', hL, e1, e2, ⟨⟨w1, hp, hP1, hD1⟩, hz, hk⟩, hce, hcv, hcl, stp⟩
  · cases hv
    rw [h0] at hz hk
    rw [← e1] at hP1 hz hk
    obtain ⟨t2, a1, b1⟩ := kk v w1 hp T'.heap (locs ++ L) ls hP1 (hD1.weaken (fun _ q _ h => hFc q.1 h)) ⟨Nat.le_trans hS.1 hz, fun q h1 h2 => (hk q (Nat.lt_of_lt_of_le h1 hS.1) (fun z => h2 (hFc q z))).trans (hS.2.1 q h1 h2), fun q hq => by
        rcases List.mem_append.mp hq with h | h
        · exact hS.2.2 q h
        · exact hFc _ (hL q h)⟩ hl T' rfl X'
    exact ⟨t2, stp t2 a1, b1⟩
  · exact hp.elim
end KWS
