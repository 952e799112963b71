/-! FRAMES: a contract over a part of a world is one over the world; calls over the one half of a world. -/
theorem Ev.narrow {D : va_G} {cA : Nat → ClassId} {A A' : Nat → Prop} {U : State} {H : Heap} (h : Ev D cA A U H) (hA : ∀ q, A' q → A q) : Ev D cA A' U H :=
  ⟨h.1, h.2.1, h.2.2.1, h.2.2.2.1, h.2.2.2.2.1.narrow hA, h.2.2.2.2.2.1.narrow hA, h.2.2.2.2.2.2.1.narrow hA, h.2.2.2.2.2.2.2.1.narrow hA, h.2.2.2.2.2.2.2.2.narrow hA⟩
theorem EvX.narrow {D : va_G} {cA : Nat → ClassId} {A A' : Nat → Prop} {U : State} {H : Heap} (h : EvX D cA A U H) (hA : ∀ q, A' q → A q) : EvX D cA A' U H :=
  ⟨h.1.narrow hA, h.2.1, h.2.2.1, h.2.2.2.1, h.2.2.2.2.1.narrow hA, h.2.2.2.2.2.narrow hA⟩
theorem va_A_sub {wc ws : va_W} {isC : List Nat} (hC : isC.map (fun i => ws[i]?) = wc.map some) (sz : Nat) : ∀ q, va_A wc sz q → va_A ws sz q := by
  rintro q (⟨k, e, h⟩ | h)
  · obtain ⟨i, -, h2⟩ := map_at hC k _ h
    exact Or.inl ⟨i, e, h2⟩
  · exact Or.inr h
section FR
variable {l : Launch} {D : va_G} {cA : Nat → ClassId} {y : MethodName} {wy : List Cond} {rm : Room} {wc ws : va_W} {av : List Value} {mc ms : Nat}
theorem Con.frame {Post : Option Value → va_W → Prop} (hM : Con l D cA y wy rm wc av mc ms Post) (isC : List Nat) (hC : isC.map (fun i => ws[i]?) = wc.map some) (hn : va_nd isC = true) (ha : ∀ v w1, Post v w1 → w1.map (·.1) = wc.map (·.1)) : Con l D cA y wy rm ws av mc ms (fun v w => ∃ w1, Post v w1 ∧ w = setAll ws isC w1) := by
  intro sz p e hadm hfc hfk s m args below hf happ hP hK
  obtain ⟨hav, hsz, hP0, hE, hD⟩ := hP
  subst hsz
  have hsub := va_A_sub hC s.heap.size
  have hPc : va_P D vwCl wc s.heap := fun k q hk => by
    obtain ⟨i, -, h⟩ := map_at hC k q hk
    exact hP0 i q h
  obtain ⟨n, o, h1, h2, h3, ⟨⟨v, w1, ho, hp, hP1, hD1⟩, hF⟩, L, hL1, hL2⟩ := hM s.heap.size p e hadm hfc hfk s m args below hf happ ⟨hav, rfl, hPc, hE.narrow hsub, hD.sub isC hn hC⟩ hK
  obtain ⟨hPj, hDj⟩ := va_joinA hP0 (hD.self (sz := s.heap.size)) isC hC hn (ha v w1 hp) hF.2 hP1
  exact ⟨n, o, h1, h2, h3, ⟨⟨v, setAll ws isC w1, ho, ⟨w1, hp, rfl⟩, hPj, hDj⟩, hF.1, fun q a b => hF.2 q a (fun z => b (hsub q z))⟩, L, hL1, fun q hq => hsub _ (hL2 q hq)⟩
theorem ConX.frame {Post : Option Value → va_W → Prop} {PostX : String → va_W → Prop} (hM : ConX l D cA y wy rm wc av mc ms Post PostX) (isC : List Nat) (hC : isC.map (fun i => ws[i]?) = wc.map some) (hn : va_nd isC = true) (ha : ∀ v w1, Post v w1 → w1.map (·.1) = wc.map (·.1)) (hax : ∀ E w1, PostX E w1 → w1.map (·.1) = wc.map (·.1)) : ConX l D cA y wy rm ws av mc ms (fun v w => ∃ w1, Post v w1 ∧ w = setAll ws isC w1) (fun E w => ∃ w1, PostX E w1 ∧ w = setAll ws isC w1) := by
  intro sz p e hadm hfc hfk s m args below hf happ hP hK
  obtain ⟨hav, hsz, hP0, hE, hD⟩ := hP
  subst hsz
  have hsub := va_A_sub hC s.heap.size
  have hPc : va_P D vwCl wc s.heap := fun k q hk => by
    obtain ⟨i, -, h⟩ := map_at hC k q hk
    exact hP0 i q h
  obtain ⟨n, o, h1, h2, h3, hQ⟩ := hM s.heap.size p e hadm hfc hfk s m args below hf happ ⟨hav, rfl, hPc, hE.narrow hsub, hD.sub isC hn hC⟩ hK
  rcases hQ with ⟨⟨⟨v, w1, ho, hp, hP1, hD1⟩, hF⟩, L, hL1, hL2⟩ | ⟨q, ho, E, ce, L, ⟨⟨w1, hp, hP1, hD1⟩, hF⟩, g1, g2, g3, g4, g5, g6⟩
  · obtain ⟨hPj, hDj⟩ := va_joinA hP0 (hD.self (sz := s.heap.size)) isC hC hn (ha v w1 hp) hF.2 hP1
    exact ⟨n, o, h1, h2, h3, Or.inl ⟨⟨⟨v, setAll ws isC w1, ho, ⟨w1, hp, rfl⟩, hPj, hDj⟩, hF.1, fun q a b => hF.2 q a (fun z => b (hsub q z))⟩, L, hL1, fun q hq => hsub _ (hL2 q hq)⟩⟩
  · obtain ⟨hPj, hDj⟩ := va_joinA hP0 (hD.self (sz := s.heap.size)) isC hC hn (hax E w1 hp) hF.2 hP1
    exact ⟨n, o, h1, h2, h3, Or.inr ⟨q, ho, E, ce, L, ⟨⟨setAll ws isC w1, ⟨w1, hp, rfl⟩, hPj, hDj⟩, hF.1, fun q a b => hF.2 q a (fun z => b (hsub q z))⟩, g1, g2, g3, g4, g5, fun z hz => hsub _ (g6 z hz)⟩⟩
theorem Con.imp {Post Post' : Option Value → va_W → Prop} (hM : Con l D cA y wy rm wc av mc ms Post) (h : ∀ v w, Post v w → Post' v w) : Con l D cA y wy rm wc av mc ms Post' := by
  intro sz p e hadm hfc hfk s m args below hf happ hP hK
  obtain ⟨n, o, h1, h2, h3, ⟨⟨v, w1, ho, hp, hP1, hD1⟩, hF⟩, hL⟩ := hM sz p e hadm hfc hfk s m args below hf happ hP hK
  exact ⟨n, o, h1, h2, h3, ⟨⟨v, w1, ho, h v w1 hp, hP1, hD1⟩, hF⟩, hL⟩
theorem ConX.imp {Post Post' : Option Value → va_W → Prop} {PostX PostX' : String → va_W → Prop} (hM : ConX l D cA y wy rm wc av mc ms Post PostX) (h : ∀ v w, Post v w → Post' v w) (hx : ∀ E w, PostX E w → PostX' E w) : ConX l D cA y wy rm wc av mc ms Post' PostX' := by
  intro sz p e hadm hfc hfk s m args below hf happ hP hK
  obtain ⟨n, o, h1, h2, h3, hQ⟩ := hM sz p e hadm hfc hfk s m args below hf happ hP hK
  rcases hQ with ⟨⟨⟨v, w1, ho, hp, hP1, hD1⟩, hF⟩, hL⟩ | ⟨q, ho, E, ce, L, ⟨⟨w1, hp, hP1, hD1⟩, hF⟩, g⟩
  · exact ⟨n, o, h1, h2, h3, Or.inl ⟨⟨⟨v, w1, ho, h v w1 hp, hP1, hD1⟩, hF⟩, hL⟩⟩
  · exact ⟨n, o, h1, h2, h3, Or.inr ⟨q, ho, E, ce, L, ⟨⟨w1, hx E w1 hp, hP1, hD1⟩, hF⟩, g⟩⟩
end FR
theorem rg_L (a b : va_W) : (List.range' 0 a.length).map (fun i => (a ++ b)[i]?) = a.map some := by
  refine List.ext_getElem? fun k => ?_
  rw [List.getElem?_map, List.getElem?_map]
  by_cases h : k < a.length
  · rw [List.getElem?_range' h]
    simp [List.getElem?_append_left h, List.getElem?_eq_getElem h]
  · rw [List.getElem?_eq_none (by simpa using h), List.getElem?_eq_none (by simpa using h)]
    rfl
theorem rg_R (a b : va_W) : (List.range' a.length b.length).map (fun i => (a ++ b)[i]?) = b.map some := by
  refine List.ext_getElem? fun k => ?_
  rw [List.getElem?_map, List.getElem?_map]
  by_cases h : k < b.length
  · rw [List.getElem?_range' h]
    simp [List.getElem?_append_right, List.getElem?_eq_getElem h]
  · rw [List.getElem?_eq_none (by simpa using h), List.getElem?_eq_none (by simpa using h)]
    rfl
theorem nd_rg : ∀ (n i : Nat), va_nd (List.range' i n) = true
  | 0, _ => rfl
  | n + 1, i => by
    rw [List.range'_succ]
    simp only [va_nd, Bool.and_eq_true, decide_eq_true_eq]
    exact ⟨fun h => by have := (List.mem_range'_1.mp h).1; omega, nd_rg n (i + 1)⟩
section KO
variable {p : Program} {l : Launch} {e : Env} {R : Room} {s : State} {m : MethodId} {args : Array Value} {below : List Frame} {meth : Method} {c : Code} {D : va_G} {A : Nat → Prop} {nL cells slots : Nat} {Q : State → Prop} {ws : va_W} {pc : Nat} {lv : List (Nat × Value)} {st : List Value}
variable {cc : ByteArray} {Ts : List Cond} {own : String} {cA : Nat → ClassId}
theorem k_swap {a b : va_W} (kk : Kf p l e R s m args below meth c D A nL cells slots Q (b ++ a) pc lv st) : Kf p l e R s m args below meth c D A nL cells slots Q (a ++ b) pc lv st := k_perm List.perm_append_comm kk
theorem k_onL {mc ms : Nat} {st0 rest : List Value} {a b : va_W} {Post : Option Value → va_W → Prop} (C : Cx p s m meth c cc nL args Ts own D cA A) (hr : KR p l e R s m args below meth c D A nL cells slots pc st0 rest a mc ms Post)
    (kk : ∀ (v : Option Value) (a1 : va_W), Post v a1 → Kf p l e R s m args below meth c D A nL (cells + mc) (slots + ms) Q (a1 ++ b) (pc + 3) lv (v.toList ++ rest)) : Kf p l e R s m args below meth c D A nL cells slots Q (a ++ b) pc lv st0 :=
  k_call C (List.range' 0 a.length) (List.range' a.length b.length) (rg_L a b) (rg_R a b) (nd_rg _ _) (nd_rg _ _) (fun i h1 h2 => by
    have h1 := List.mem_range'_1.mp h1
    have h2 := List.mem_range'_1.mp h2
    omega) hr (fun v a1 h => k_swap (kk v a1 h))
theorem k_onR {mc ms : Nat} {st0 rest : List Value} {a b : va_W} {Post : Option Value → va_W → Prop} (C : Cx p s m meth c cc nL args Ts own D cA A) (hr : KR p l e R s m args below meth c D A nL cells slots pc st0 rest b mc ms Post)
    (kk : ∀ (v : Option Value) (b1 : va_W), Post v b1 → Kf p l e R s m args below meth c D A nL (cells + mc) (slots + ms) Q (a ++ b1) (pc + 3) lv (v.toList ++ rest)) : Kf p l e R s m args below meth c D A nL cells slots Q (a ++ b) pc lv st0 :=
  k_swap (k_onL C hr (fun v b1 h => k_swap (kk v b1 h)))
/-- what may throw, over the first half -/
theorem kx_onL {mc ms : Nat} {st0 rest : List Value} {a b : va_W} {Post : Option Value → va_W → Prop} {PostX : String → va_W → Prop} (C : Cx p s m meth c cc nL args Ts own D cA A) (hr : KRX p l e R s m args below meth c D A nL cells slots pc st0 rest a mc ms Post PostX)
    (ha : ∀ v w1, Post v w1 → w1.map (·.1) = a.map (·.1)) (hax : ∀ E w1, PostX E w1 → w1.map (·.1) = a.map (·.1))
    (kx : ∀ (E : String) (a1 : va_W), PostX E a1 → KXf p l e R s m args below meth c D A nL (cells + mc) (slots + ms) Q (a1 ++ b) pc lv rest E)
    (kk : ∀ (v : Option Value) (a1 : va_W), Post v a1 → Kf p l e R s m args below meth c D A nL (cells + mc) (slots + ms) Q (a1 ++ b) (pc + 3) lv (v.toList ++ rest)) : Kf p l e R s m args below meth c D A nL cells slots Q (a ++ b) pc lv st0 := by
  have hl : ∀ {w1 : va_W}, w1.map (·.1) = a.map (·.1) → w1.length = a.length := fun h => by simpa using congrArg List.length h
  refine kx_call C (List.range' 0 a.length) (rg_L a b) (nd_rg _ _) hr ha hax (fun E w1 h => ?_) (fun v w1 h => ?_)
  · rw [setAll_0 a b (hl (hax E w1 h)) rfl]
    exact kx E w1 h
  · rw [setAll_0 a b (hl (ha v w1 h)) rfl]
    exact kk v w1 h
theorem ky_cw (C : Cx p s m meth c cc nL args Ts own D cA A) {y : MethodName} {bytes : ByteArray} {maxL index n mc ms : Nat} {ret : Option FieldType} {hh : List (Nat × Nat × Nat × Nat)} {rm : Room} (hc : Cond.codeWith y bytes maxL ret hh ∈ W0) (hl : Cond.methodLink own index y ∈ W0) (hini : Cond.initialized y.cls ∈ W0) (hst : Cond.static y ∈ W0) (hd : okY y n) (hrc : rm.cells = mc) (hrs : rm.slots = ms) (hR : rm.frames + 1 ≤ R.frames ∧ 8 + (maxL + 11) + rm.locals ≤ R.locals) : vx_CSW R s args own index y bytes maxL ret hh (wmW y bytes maxL ret hh) rm mc ms n :=
  ⟨⟨hrc, hrs, hR.1, hR.2, pay_in C.1.2.2.2.2 (fun w h => by
    have h0 : w ∈ W0 := (List.mem_cons.mp h).elim (fun e => by rw [e]; exact hc) id
    exact ⟨C.2.2.2.2 w h0, good_of_word (W0_good w h0)⟩), List.mem_cons_self⟩, C.w hc, C.w hini, ⟨hd.1, hd.2.1⟩, fun sig h => by
    have h2 := hd.2.2
    rw [h] at h2
    exact (Option.some.inj h2).symm, C.w hl, C.w hst⟩
/-- the law's own script -/
theorem k_sld (C : Cx p s m meth c cc nL args Ts own D cA A) {b L : Nat} {xs : Nat → Int32} (hX : va_X b L xs s s.heap) (hbl : b < s.heap.size) (hbA : ¬ A b) {i : Int32} (hin : vp_in i L) (hdg : decode cc pc = .ok (.iaload, 1))
    (kk : Kf p l e R s m args below meth c D A nL cells slots Q ws (pc + 1) lv (.int (xs i.toNatClampNeg) :: st)) : Kf p l e R s m args below meth c D A nL cells slots Q ws pc lv (.int i :: .ref b :: st) :=
  fun H locs ls hP hD hS hl => va_sld C.1.1 C.1.2.1 hX hbl hbA hS hin hdg (kk H locs ls hP hD hS hl)
theorem k_slen (C : Cx p s m meth c cc nL args Ts own D cA A) {b L : Nat} {xs : Nat → Int32} (hX : va_X b L xs s s.heap) (hbl : b < s.heap.size) (hbA : ¬ A b) (hdg : decode cc pc = .ok (.arraylength, 1))
    (kk : Kf p l e R s m args below meth c D A nL cells slots Q ws (pc + 1) lv (.int (nI L) :: st)) : Kf p l e R s m args below meth c D A nL cells slots Q ws pc lv (.ref b :: st) :=
  fun H locs ls hP hD hS hl => va_slen C.1.1 C.1.2.1 hX hbl hbA hS hdg (kk H locs ls hP hD hS hl)
theorem k_lcmp (C : Cx p s m meth c cc nL args Ts own D cA A) {x y : Int64} (hdg : decode cc pc = .ok (.lcmp, 1)) (kk : Kf p l e R s m args below meth c D A nL cells slots Q ws (pc + 1) lv (.int (lg_cmp x y) :: st)) : Kf p l e R s m args below meth c D A nL cells slots Q ws pc lv (.long y :: .long x :: st) :=
  fun H locs ls hP hD hS hl => W.lcmp C.1.1 C.1.2.1 hdg (kk H locs ls hP hD hS hl)
theorem k_f2d (C : Cx p s m meth c cc nL args Ts own D cA A) {x : UInt32} (hdg : decode cc pc = .ok (.f2d, 1)) (hne : vf_n64 (FP.f2d x)) (kk : Kf p l e R s m args below meth c D A nL cells slots Q ws (pc + 1) lv (.double (FP.f2d x) :: st)) : Kf p l e R s m args below meth c D A nL cells slots Q ws pc lv (.float x :: st) :=
  fun H locs ls hP hD hS hl => lv_f2d C.1.1 C.1.2.1 hdg hne (kk H locs ls hP hD hS hl)
theorem k_dcmp (C : Cx p s m meth c cc nL args Ts own D cA A) {x y : UInt64} {op : CmpOp} (hdg : decode cc pc = .ok (.dcmp op, 1)) (kk : Kf p l e R s m args below meth c D A nL cells slots Q ws (pc + 1) lv (.int (Op.cmpValue (FP.dcmp x y) op) :: st)) : Kf p l e R s m args below meth c D A nL cells slots Q ws pc lv (.double y :: .double x :: st) :=
  fun H locs ls hP hD hS hl => lv_dcmp C.1.1 C.1.2.1 hdg (kk H locs ls hP hD hS hl)
theorem k_dload (C : Cx p s m meth c cc nL args Ts own D cA A) (j : Nat) {i : Nat} {x : UInt64} (hdg : decode cc pc = .ok (.dload i, 2)) (hj : lv[j]? = some (i, .double x)) (kk : Kf p l e R s m args below meth c D A nL cells slots Q ws (pc + 2) lv (.double x :: st)) : Kf p l e R s m args below meth c D A nL cells slots Q ws pc lv st :=
  fun H locs ls hP hD hS hl => lv_dload C.1.1 C.1.2.1 hdg (lv_at hl j hj) (kk H locs ls hP hD hS hl)
theorem k_dstore (C : Cx p s m meth c cc nL args Ts own D cA A) {i : Nat} {x : UInt64} {lv' : List (Nat × Value)} (hdg : decode cc pc = .ok (.dstore i, 2)) (hn : i + 1 < nL) (hl : (i, Value.double x) :: lv.filter (fun q => !(q.1 == i) && (!(q.1 == i + 1) && !(q.1 + 1 == i && q.2.category == 2))) = lv') (kk : Kf p l e R s m args below meth c D A nL cells slots Q ws (pc + 2) lv' st) : Kf p l e R s m args below meth c D A nL cells slots Q ws pc lv (.double x :: st) :=
  fun H locs ls hP hD hS h => lv_dstore C.1.1 C.1.2.1 hdg h hn hl (fun ls h => kk H locs ls hP hD hS h)
end KO
