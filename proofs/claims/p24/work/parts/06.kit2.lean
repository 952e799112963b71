section KB
variable {p : Program} {l : Launch} {e : Env} {R : Room} {s : State} {m : MethodId} {args : Array Value} {below : List Frame} {meth : Method} {c : Code} {D : va_G} {A : Nat → Prop} {nL cells slots : Nat} {Q : State → Prop} {ws : va_W} {pc : Nat} {lv : List (Nat × Value)} {st : List Value}
variable {cc : ByteArray} {Ts : List Cond} {own : String} {cA : Nat → ClassId}
theorem k_ladd (C : Cx p s m meth c cc nL args Ts own D cA A) {x y : Int64} (hdg : decode cc pc = .ok (.ladd, 1)) (kk : Kf p l e R s m args below meth c D A nL cells slots Q ws (pc + 1) lv (.long (x + y) :: st)) : Kf p l e R s m args below meth c D A nL cells slots Q ws pc lv (.long y :: .long x :: st) :=
  fun H locs ls hP hD hS hl => lv_ladd C.1.1 C.1.2.1 hdg (kk H locs ls hP hD hS hl)
theorem k_lmul (C : Cx p s m meth c cc nL args Ts own D cA A) {x y : Int64} (hdg : decode cc pc = .ok (.lmul, 1)) (kk : Kf p l e R s m args below meth c D A nL cells slots Q ws (pc + 1) lv (.long (x * y) :: st)) : Kf p l e R s m args below meth c D A nL cells slots Q ws pc lv (.long y :: .long x :: st) :=
  fun H locs ls hP hD hS hl => lv_lmul C.1.1 C.1.2.1 hdg (kk H locs ls hP hD hS hl)
theorem k_ishr (C : Cx p s m meth c cc nL args Ts own D cA A) {x y : Int32} (hdg : decode cc pc = .ok (.ishr, 1)) (kk : Kf p l e R s m args below meth c D A nL cells slots Q ws (pc + 1) lv (.int (x >>> (y &&& 31)) :: st)) : Kf p l e R s m args below meth c D A nL cells slots Q ws pc lv (.int y :: .int x :: st) :=
  fun H locs ls hP hD hS hl => lv_ishr C.1.1 C.1.2.1 hdg (kk H locs ls hP hD hS hl)
theorem k_ineg (C : Cx p s m meth c cc nL args Ts own D cA A) {x : Int32} (hdg : decode cc pc = .ok (.ineg, 1)) (kk : Kf p l e R s m args below meth c D A nL cells slots Q ws (pc + 1) lv (.int (-x) :: st)) : Kf p l e R s m args below meth c D A nL cells slots Q ws pc lv (.int x :: st) :=
  fun H locs ls hP hD hS hl => lv_ineg C.1.1 C.1.2.1 hdg (kk H locs ls hP hD hS hl)
theorem k_i2l (C : Cx p s m meth c cc nL args Ts own D cA A) {x : Int32} {v : Int64} (hdg : decode cc pc = .ok (.i2l, 1)) (hv : x.toInt64 = v) (kk : Kf p l e R s m args below meth c D A nL cells slots Q ws (pc + 1) lv (.long v :: st)) : Kf p l e R s m args below meth c D A nL cells slots Q ws pc lv (.int x :: st) :=
  fun H locs ls hP hD hS hl => lv_i2l C.1.1 C.1.2.1 hdg hv (kk H locs ls hP hD hS hl)
theorem k_lconst (C : Cx p s m meth c cc nL args Ts own D cA A) {n : Fin 2} {v : Int64} (hdg : decode cc pc = .ok (.lconst n, 1)) (hv : Int64.ofNat (n : Nat) = v) (kk : Kf p l e R s m args below meth c D A nL cells slots Q ws (pc + 1) lv (.long v :: st)) : Kf p l e R s m args below meth c D A nL cells slots Q ws pc lv st :=
  fun H locs ls hP hD hS hl => lv_lconst C.1.1 C.1.2.1 hdg hv (kk H locs ls hP hD hS hl)
theorem k_lstore_n (C : Cx p s m meth c cc nL args Ts own D cA A) {k : Fin 4} {i : Nat} {x : Int64} {lv' : List (Nat × Value)} (hdg : decode cc pc = .ok (.lstore_n k, 1)) (hi : (k : Nat) = i) (hn : i + 1 < nL) (hl : (i, Value.long x) :: lv.filter (fun q => !(q.1 == i) && (!(q.1 == i + 1) && !(q.1 + 1 == i && q.2.category == 2))) = lv') (kk : Kf p l e R s m args below meth c D A nL cells slots Q ws (pc + 1) lv' st) : Kf p l e R s m args below meth c D A nL cells slots Q ws pc lv (.long x :: st) :=
  fun H locs ls hP hD hS h => lv_lstore_n C.1.1 C.1.2.1 hdg hi h hn hl (fun ls h => kk H locs ls hP hD hS h)
theorem k_lstore (C : Cx p s m meth c cc nL args Ts own D cA A) {i : Nat} {x : Int64} {lv' : List (Nat × Value)} (hdg : decode cc pc = .ok (.lstore i, 2)) (hn : i + 1 < nL) (hl : (i, Value.long x) :: lv.filter (fun q => !(q.1 == i) && (!(q.1 == i + 1) && !(q.1 + 1 == i && q.2.category == 2))) = lv') (kk : Kf p l e R s m args below meth c D A nL cells slots Q ws (pc + 2) lv' st) : Kf p l e R s m args below meth c D A nL cells slots Q ws pc lv (.long x :: st) :=
  fun H locs ls hP hD hS h => lv_lstore C.1.1 C.1.2.1 hdg h hn hl (fun ls h => kk H locs ls hP hD hS h)
theorem k_tableIn (C : Cx p s m meth c cc nL args Ts own D cA A) {dflt lo hi : Int} {offs : Array Int} {len : Nat} {x : Int32} {off : Int} {tgt : Nat} (hdg : decode cc pc = .ok (.tableswitch dflt lo hi offs, len)) (h1 : ¬ x.toInt < lo) (h2 : ¬ hi < x.toInt) (ho : offs[(x.toInt - lo).toNat]? = some off) (ht : (pc : Int) + off = (tgt : Int)) (kk : Kf p l e R s m args below meth c D A nL cells slots Q ws tgt lv st) : Kf p l e R s m args below meth c D A nL cells slots Q ws pc lv (.int x :: st) :=
  fun H locs ls hP hD hS hl => lv_tableIn C.1.1 C.1.2.1 hdg h1 h2 ho ht (kk H locs ls hP hD hS hl)
theorem k_tableOut (C : Cx p s m meth c cc nL args Ts own D cA A) {dflt lo hi : Int} {offs : Array Int} {len : Nat} {x : Int32} {tgt : Nat} (hdg : decode cc pc = .ok (.tableswitch dflt lo hi offs, len)) (h : x.toInt < lo ∨ hi < x.toInt) (ht : (pc : Int) + dflt = (tgt : Int)) (kk : Kf p l e R s m args below meth c D A nL cells slots Q ws tgt lv st) : Kf p l e R s m args below meth c D A nL cells slots Q ws pc lv (.int x :: st) :=
  fun H locs ls hP hD hS hl => lv_tableOut C.1.1 C.1.2.1 hdg h ht (kk H locs ls hP hD hS hl)
theorem k_mmin (C : Cx p s m meth c cc nL args Ts own D cA A) {index : Nat} {x y : Int32} (hlink : Cond.methodLink own index Lib.Math.min.name ∈ W0) (hstat : Cond.static Lib.Math.min.name ∈ W0) (hini : Cond.initialized "java/lang/Math" ∈ W0) (hcode : Cond.code Lib.Math.min.name Lib.Math.min.code 2 (some .int) ∈ W0) (hframes : 1 ≤ R.frames) (hlocals : (st.map fun v => v.category).sum + 13 ≤ R.locals) (hc : cells ≤ R.cells) (hs : slots ≤ R.slots) (hdg : decode cc pc = .ok (.invokestatic index, 3)) (kk : Kf p l e R s m args below meth c D A nL cells slots Q ws (pc + 3) lv (.int (if y < x then y else x) :: st)) : Kf p l e R s m args below meth c D A nL cells slots Q ws pc lv (.int y :: .int x :: st) :=
  fun H locs ls hP hD hS hl => va_mmin C.1.1 C.1.2.1 (C.1.2.2.1.trans hl.1.symm) C.1.2.2.2.1 (C.w hlink) (C.w hstat) (C.w hini) (C.w hcode) hframes hlocals hc hs hdg (kk H locs ls hP hD hS hl)
theorem k_out_0_6 {x : Int32} (h0 : ¬ x = (0 : Int32)) (h1 : ¬ x = (1 : Int32)) (h2 : ¬ x = (2 : Int32)) (h3 : ¬ x = (3 : Int32)) (h4 : ¬ x = (4 : Int32)) (h5 : ¬ x = (5 : Int32)) (h6 : ¬ x = (6 : Int32)) : x.toInt < 0 ∨ 6 < x.toInt := by
  have e0 : x.toInt ≠ 0 := fun h => h0 (Int32.toInt_inj.mp h)
  have e1 : x.toInt ≠ 1 := fun h => h1 (Int32.toInt_inj.mp h)
  have e2 : x.toInt ≠ 2 := fun h => h2 (Int32.toInt_inj.mp h)
  have e3 : x.toInt ≠ 3 := fun h => h3 (Int32.toInt_inj.mp h)
  have e4 : x.toInt ≠ 4 := fun h => h4 (Int32.toInt_inj.mp h)
  have e5 : x.toInt ≠ 5 := fun h => h5 (Int32.toInt_inj.mp h)
  have e6 : x.toInt ≠ 6 := fun h => h6 (Int32.toInt_inj.mp h)
  omega
theorem k_out_0_3 {x : Int32} (h0 : ¬ x = (0 : Int32)) (h1 : ¬ x = (1 : Int32)) (h2 : ¬ x = (2 : Int32)) (h3 : ¬ x = (3 : Int32)) : x.toInt < 0 ∨ 3 < x.toInt := by
  have e0 : x.toInt ≠ 0 := fun h => h0 (Int32.toInt_inj.mp h)
  have e1 : x.toInt ≠ 1 := fun h => h1 (Int32.toInt_inj.mp h)
  have e2 : x.toInt ≠ 2 := fun h => h2 (Int32.toInt_inj.mp h)
  have e3 : x.toInt ≠ 3 := fun h => h3 (Int32.toInt_inj.mp h)
  omega
theorem k_out_0_5 {x : Int32} (h0 : ¬ x = (0 : Int32)) (h1 : ¬ x = (1 : Int32)) (h2 : ¬ x = (2 : Int32)) (h3 : ¬ x = (3 : Int32)) (h4 : ¬ x = (4 : Int32)) (h5 : ¬ x = (5 : Int32)) : x.toInt < 0 ∨ 5 < x.toInt := by
  have e0 : x.toInt ≠ 0 := fun h => h0 (Int32.toInt_inj.mp h)
  have e1 : x.toInt ≠ 1 := fun h => h1 (Int32.toInt_inj.mp h)
  have e2 : x.toInt ≠ 2 := fun h => h2 (Int32.toInt_inj.mp h)
  have e3 : x.toInt ≠ 3 := fun h => h3 (Int32.toInt_inj.mp h)
  have e4 : x.toInt ≠ 4 := fun h => h4 (Int32.toInt_inj.mp h)
  have e5 : x.toInt ≠ 5 := fun h => h5 (Int32.toInt_inj.mp h)
  omega
theorem k_out_2_5 {x : Int32} (h2 : ¬ x = (2 : Int32)) (h3 : ¬ x = (3 : Int32)) (h4 : ¬ x = (4 : Int32)) (h5 : ¬ x = (5 : Int32)) : x.toInt < 2 ∨ 5 < x.toInt := by
  have e2 : x.toInt ≠ 2 := fun h => h2 (Int32.toInt_inj.mp h)
  have e3 : x.toInt ≠ 3 := fun h => h3 (Int32.toInt_inj.mp h)
  have e4 : x.toInt ≠ 4 := fun h => h4 (Int32.toInt_inj.mp h)
  have e5 : x.toInt ≠ 5 := fun h => h5 (Int32.toInt_inj.mp h)
  omega
theorem k_out_0_20 {x : Int32} (h0 : ¬ x = (0 : Int32)) (h1 : ¬ x = (1 : Int32)) (h2 : ¬ x = (2 : Int32)) (h3 : ¬ x = (3 : Int32)) (h4 : ¬ x = (4 : Int32)) (h5 : ¬ x = (5 : Int32)) (h6 : ¬ x = (6 : Int32)) (h7 : ¬ x = (7 : Int32)) (h8 : ¬ x = (8 : Int32)) (h9 : ¬ x = (9 : Int32)) (h10 : ¬ x = (10 : Int32)) (h11 : ¬ x = (11 : Int32)) (h12 : ¬ x = (12 : Int32)) (h13 : ¬ x = (13 : Int32)) (h14 : ¬ x = (14 : Int32)) (h15 : ¬ x = (15 : Int32)) (h16 : ¬ x = (16 : Int32)) (h17 : ¬ x = (17 : Int32)) (h18 : ¬ x = (18 : Int32)) (h19 : ¬ x = (19 : Int32)) (h20 : ¬ x = (20 : Int32)) : x.toInt < 0 ∨ 20 < x.toInt := by
  have e0 : x.toInt ≠ 0 := fun h => h0 (Int32.toInt_inj.mp h)
  have e1 : x.toInt ≠ 1 := fun h => h1 (Int32.toInt_inj.mp h)
  have e2 : x.toInt ≠ 2 := fun h => h2 (Int32.toInt_inj.mp h)
  have e3 : x.toInt ≠ 3 := fun h => h3 (Int32.toInt_inj.mp h)
  have e4 : x.toInt ≠ 4 := fun h => h4 (Int32.toInt_inj.mp h)
  have e5 : x.toInt ≠ 5 := fun h => h5 (Int32.toInt_inj.mp h)
  have e6 : x.toInt ≠ 6 := fun h => h6 (Int32.toInt_inj.mp h)
  have e7 : x.toInt ≠ 7 := fun h => h7 (Int32.toInt_inj.mp h)
  have e8 : x.toInt ≠ 8 := fun h => h8 (Int32.toInt_inj.mp h)
  have e9 : x.toInt ≠ 9 := fun h => h9 (Int32.toInt_inj.mp h)
  have e10 : x.toInt ≠ 10 := fun h => h10 (Int32.toInt_inj.mp h)
  have e11 : x.toInt ≠ 11 := fun h => h11 (Int32.toInt_inj.mp h)
  have e12 : x.toInt ≠ 12 := fun h => h12 (Int32.toInt_inj.mp h)
  have e13 : x.toInt ≠ 13 := fun h => h13 (Int32.toInt_inj.mp h)
  have e14 : x.toInt ≠ 14 := fun h => h14 (Int32.toInt_inj.mp h)
  have e15 : x.toInt ≠ 15 := fun h => h15 (Int32.toInt_inj.mp h)
  have e16 : x.toInt ≠ 16 := fun h => h16 (Int32.toInt_inj.mp h)
  have e17 : x.toInt ≠ 17 := fun h => h17 (Int32.toInt_inj.mp h)
  have e18 : x.toInt ≠ 18 := fun h => h18 (Int32.toInt_inj.mp h)
  have e19 : x.toInt ≠ 19 := fun h => h19 (Int32.toInt_inj.mp h)
  have e20 : x.toInt ≠ 20 := fun h => h20 (Int32.toInt_inj.mp h)
  omega
end KB
