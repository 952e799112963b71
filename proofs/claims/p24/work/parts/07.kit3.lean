/-! CALLS IN PLACE: the callee's cells come back where they were; and the reference's world: sixteen cells, then all rows of its arrays of arrays. -/
def setAll : va_W → List Nat → va_W → va_W
  | ws, i :: is, c :: cs => setAll (ws.set i c) is cs
  | ws, _, _ => ws
theorem setAll_len : ∀ (is : List Nat) (cs : va_W) (ws : va_W), (setAll ws is cs).length = ws.length
  | [], _, _ => by simp [setAll]
  | _ :: _, [], _ => by simp [setAll]
  | i :: is, c :: cs, ws => by rw [setAll, setAll_len is cs, List.length_set]
/-- what stands at a place of it: the cell that came there, or the old one -/
theorem setAll_get : ∀ (is : List Nat) (cs : va_W) (ws : va_W), va_nd is = true → is.length = cs.length → ∀ (k : Nat) (q : Nat × va_E), (setAll ws is cs)[k]? = some q → (∃ j : Nat, is[j]? = some k ∧ cs[j]? = some q) ∨ (k ∉ is ∧ ws[k]? = some q)
  | [], [], ws, _, _, k, q, h => Or.inr ⟨List.not_mem_nil, by simpa [setAll] using h⟩
  | [], _ :: _, _, _, h, _, _, _ => by simp at h
  | _ :: _, [], _, _, h, _, _, _ => by simp at h
  | i :: is, c :: cs, ws, hn, hl, k, q, h => by
    simp only [va_nd, Bool.and_eq_true, decide_eq_true_eq] at hn
    rw [setAll] at h
    rcases setAll_get is cs (ws.set i c) hn.2 (by simpa using hl) k q h with ⟨j, h1, h2⟩ | ⟨h1, h2⟩
    · exact Or.inl ⟨j + 1, by simpa using h1, by simpa using h2⟩
    · by_cases hk : i = k
      · subst hk
        have hlt : i < ws.length := by
          have := (List.getElem?_eq_some_iff.mp h2).1
          simpa using this
        rw [List.getElem?_set_self hlt] at h2
        exact Or.inl ⟨0, rfl, by simpa using h2⟩
      · rw [List.getElem?_set_ne hk] at h2
        exact Or.inr ⟨by simp [Ne.symm hk, h1], h2⟩
theorem map_at {ws w : va_W} {is : List Nat} (hs : is.map (fun i => ws[i]?) = w.map some) (k : Nat) (q : Nat × va_E) (hq : w[k]? = some q) : ∃ i, is[k]? = some i ∧ ws[i]? = some q := by
  have h1 : (is.map (fun i => ws[i]?))[k]? = some (some q) := by rw [hs, List.getElem?_map, hq]; rfl
  rw [List.getElem?_map] at h1
  cases hi : is[k]? with
  | none => rw [hi] at h1; cases h1
  | some i => rw [hi] at h1; exact ⟨i, rfl, Option.some.inj h1⟩
theorem va_joinA {A0 : Nat → Prop} {D : va_G} {cl : List vw_C} {ws wc w1 : va_W} {H H1 : Heap} (hP : va_P D cl ws H) (hD : va_D A0 ws) (isC : List Nat) (hC : isC.map (fun i => ws[i]?) = wc.map some) (hn : va_nd isC = true) (ha : w1.map (·.1) = wc.map (·.1))
    (hk : ∀ q : Nat, q < H.size → ¬ va_A wc H.size q → H1[q]? = H[q]?) (hP1 : va_P D cl w1 H1) : va_P D cl (setAll ws isC w1) H1 ∧ va_D A0 (setAll ws isC w1) := by
  have hlC : isC.length = wc.length := by simpa using congrArg List.length hC
  have hl1 : w1.length = wc.length := by simpa using congrArg List.length ha
  have hlen : isC.length = w1.length := hlC.trans hl1.symm
  -- the address at a place is as it was
  have hadr : ∀ (k : Nat) (q : Nat × va_E), (setAll ws isC w1)[k]? = some q → ∃ q0, ws[k]? = some q0 ∧ q0.1 = q.1 := by
    intro k q h
    rcases setAll_get isC w1 ws hn hlen k q h with ⟨j, h1, h2⟩ | ⟨-, h2⟩
    · have hj : j < wc.length := by rw [← hl1]; exact (List.getElem?_eq_some_iff.mp h2).1
      obtain ⟨i, h3, h4⟩ := map_at hC j wc[j] (List.getElem?_eq_getElem hj)
      have hik : i = k := Option.some.inj (h3.symm.trans h1)
      subst hik
      refine ⟨_, h4, ?_⟩
      have e1 : (w1.map (·.1))[j]? = some q.1 := by rw [List.getElem?_map, h2]; rfl
      rw [ha, List.getElem?_map, List.getElem?_eq_getElem hj] at e1
      exact Option.some.inj e1
    · exact ⟨q, h2, rfl⟩
  refine ⟨fun k q h => ?_, fun i j x y hi hj hxy => ?_, fun k q h => ?_⟩
  · rcases setAll_get isC w1 ws hn hlen k q h with ⟨j, h1, h2⟩ | ⟨h1, h2⟩
    · exact hP1 j q h2
    · refine (hP k q h2).kept (hk q.1 (hP k q h2).lt ?_)
      rintro (⟨j, e, h3⟩ | h3)
      · obtain ⟨i, h4, h5⟩ := map_at hC j _ h3
        have := hD.1 k i q _ h2 h5 rfl
        subst this
        exact h1 (List.mem_of_getElem? h4)
      · exact absurd (hP k q h2).lt (Nat.not_lt.mpr h3)
  · obtain ⟨x0, h1, h2⟩ := hadr i x hi
    obtain ⟨y0, h3, h4⟩ := hadr j y hj
    exact hD.1 i j x0 y0 h1 h3 (h2.trans (hxy.trans h4.symm))
  · obtain ⟨q0, h1, h2⟩ := hadr k q h
    rw [← h2]
    exact hD.2 k q0 h1
section KC
variable {p : Program} {l : Launch} {e : Env} {R : Room} {s : State} {m : MethodId} {args : Array Value} {below : List Frame} {meth : Method} {c : Code} {D : va_G} {A : Nat → Prop} {nL cells slots : Nat} {Q : State → Prop} {ws : va_W} {pc : Nat} {lv : List (Nat × Value)} {st : List Value}
variable {cc : ByteArray} {Ts : List Cond} {own : String} {cA : Nat → ClassId}
theorem k_callP {mc ms : Nat} {st0 rest : List Value} {wc : va_W} {Post : Option Value → va_W → Prop} (C : Cx p s m meth c cc nL args Ts own D cA A) (isC : List Nat) (hC : isC.map (fun i => ws[i]?) = wc.map some) (hnC : va_nd isC = true)
    (hr : KR p l e R s m args below meth c D A nL cells slots pc st0 rest wc mc ms Post) (ha : ∀ v w1, Post v w1 → w1.map (·.1) = wc.map (·.1))
    (kk : ∀ (v : Option Value) (w1 : va_W), Post v w1 → Kf p l e R s m args below meth c D A nL (cells + mc) (slots + ms) Q (setAll ws isC w1) (pc + 3) lv (v.toList ++ rest)) : Kf p l e R s m args below meth c D A nL cells slots Q ws pc lv st0 := by
  intro H locs ls hP hD hS hl
  have hPc : va_P D vwCl wc H := fun k q hk => by
    obtain ⟨i, -, h⟩ := map_at hC k q hk
    exact hP i q h
  have hDc := hD.sub isC hnC hC
  have hFc := va_free hD hS C.2.2.1 isC hC
  obtain ⟨av, hr⟩ := hr H locs ls hPc (hDc.weaken (fun _ _ _ _ => trivial)) hFc hS hl.1
  intro T hT X
  obtain ⟨v, st₀, t, T', L, h0, X', hL, e1, e2, ⟨⟨v', w1, hv, hp, hP1, hD1⟩, hz, hk⟩, stp⟩ := hr T hT X
  cases hv
  rw [h0] at hz hk
  rw [← e1] at hP1 hz hk
  obtain ⟨hPj, hDj⟩ := va_joinA hP hD isC hC hnC (ha v w1 hp) hk hP1
  obtain ⟨t2, a1, b1⟩ := kk v w1 hp T'.heap (locs ++ L) ls hPj hDj ⟨Nat.le_trans hS.1 hz, fun q h1 h2 => (hk q (Nat.lt_of_lt_of_le h1 hS.1) (fun z => h2 (hFc q z))).trans (hS.2.1 q h1 h2), fun q hq => by
      rcases List.mem_append.mp hq with h | h
      · exact hS.2.2 q h
      · exact hFc _ (hL q h)⟩ hl T' rfl X'
  exact ⟨t2, stp t2 a1, b1⟩
/-- a callee over the same world -/
theorem k_callA {mc ms : Nat} {st0 rest : List Value} {Post : Option Value → va_W → Prop} (C : Cx p s m meth c cc nL args Ts own D cA A)
    (hr : KR p l e R s m args below meth c D A nL cells slots pc st0 rest ws mc ms Post)
    (kk : ∀ (v : Option Value) (w1 : va_W), Post v w1 → Kf p l e R s m args below meth c D A nL (cells + mc) (slots + ms) Q w1 (pc + 3) lv (v.toList ++ rest)) : Kf p l e R s m args below meth c D A nL cells slots Q ws pc lv st0 := by
  intro H locs ls hP hD hS hl
  have hFc : ∀ q, va_A ws H.size q → A q := fun q h => by
    rcases h with ⟨k, e, h⟩ | h
    · exact hD.2 k (q, e) h
    · exact C.2.2.1 q (Nat.le_trans hS.1 h)
  obtain ⟨av, hr⟩ := hr H locs ls hP (hD.weaken (fun _ _ _ _ => trivial)) hFc hS hl.1
  intro T hT X
  obtain ⟨v, st₀, t, T', L, h0, X', hL, e1, e2, ⟨⟨v', w1, hv, hp, hP1, hD1⟩, hz, hk⟩, stp⟩ := hr T hT X
  cases hv
  rw [h0] at hz hk
  rw [← e1] at hP1 hz hk
  obtain ⟨t2, a1, b1⟩ := kk v w1 hp T'.heap (locs ++ L) ls hP1 (hD1.weaken (fun _ q _ h => hFc q.1 h)) ⟨Nat.le_trans hS.1 hz, fun q h1 h2 => (hk q (Nat.lt_of_lt_of_le h1 hS.1) (fun z => h2 (hFc q z))).trans (hS.2.1 q h1 h2), fun q hq => by
      rcases List.mem_append.mp hq with h | h
      · exact hS.2.2 q h
      · exact hFc _ (hL q h)⟩ hl T' rfl X'
  exact ⟨t2, stp t2 a1, b1⟩
theorem k_pi {Pr : Prop} {P : Int32 → va_W → Prop} {v : Option Value} {w : va_W} (h : PI P v w) (k : ∀ r, v = some (.int r) → P r w → Pr) : Pr := by
  obtain ⟨r, e, h⟩ := h
  exact k r e h
theorem k_callPi {mc ms : Nat} {st0 rest : List Value} {wc : va_W} {P : Int32 → va_W → Prop} (C : Cx p s m meth c cc nL args Ts own D cA A) (isC : List Nat) (hC : isC.map (fun i => ws[i]?) = wc.map some) (hnC : va_nd isC = true)
    (hr : KR p l e R s m args below meth c D A nL cells slots pc st0 rest wc mc ms (PI P)) (ha : ∀ v w1, P v w1 → w1.map (·.1) = wc.map (·.1))
    (kk : ∀ (r : Int32) (w1 : va_W), P r w1 → Kf p l e R s m args below meth c D A nL (cells + mc) (slots + ms) Q (setAll ws isC w1) (pc + 3) lv (.int r :: rest)) : Kf p l e R s m args below meth c D A nL cells slots Q ws pc lv st0 :=
  k_callP C isC hC hnC hr (fun v w1 ⟨r, _, h⟩ => ha r w1 h) (fun v w1 ⟨r, e, h⟩ => by subst e; exact kk r w1 h)
theorem k_callPv {mc ms : Nat} {st0 rest : List Value} {wc : va_W} {P : va_W → Prop} (C : Cx p s m meth c cc nL args Ts own D cA A) (isC : List Nat) (hC : isC.map (fun i => ws[i]?) = wc.map some) (hnC : va_nd isC = true)
    (hr : KR p l e R s m args below meth c D A nL cells slots pc st0 rest wc mc ms (PV P)) (ha : ∀ w1, P w1 → w1.map (·.1) = wc.map (·.1))
    (kk : ∀ (w1 : va_W), P w1 → Kf p l e R s m args below meth c D A nL (cells + mc) (slots + ms) Q (setAll ws isC w1) (pc + 3) lv rest) : Kf p l e R s m args below meth c D A nL cells slots Q ws pc lv st0 :=
  k_callP C isC hC hnC hr (fun v w1 ⟨_, h⟩ => ha w1 h) (fun v w1 ⟨e, h⟩ => by subst e; exact kk w1 h)
theorem k_callAi {mc ms : Nat} {st0 rest : List Value} {P : Int32 → va_W → Prop} (C : Cx p s m meth c cc nL args Ts own D cA A) (hr : KR p l e R s m args below meth c D A nL cells slots pc st0 rest ws mc ms (PI P))
    (kk : ∀ (r : Int32) (w1 : va_W), P r w1 → Kf p l e R s m args below meth c D A nL (cells + mc) (slots + ms) Q w1 (pc + 3) lv (.int r :: rest)) : Kf p l e R s m args below meth c D A nL cells slots Q ws pc lv st0 :=
  k_callA C hr (fun v w1 ⟨r, e, h⟩ => by subst e; exact kk r w1 h)
theorem k_callAl {mc ms : Nat} {st0 rest : List Value} {P : Int64 → va_W → Prop} (C : Cx p s m meth c cc nL args Ts own D cA A) (hr : KR p l e R s m args below meth c D A nL cells slots pc st0 rest ws mc ms (PL P))
    (kk : ∀ (r : Int64) (w1 : va_W), P r w1 → Kf p l e R s m args below meth c D A nL (cells + mc) (slots + ms) Q w1 (pc + 3) lv (.long r :: rest)) : Kf p l e R s m args below meth c D A nL cells slots Q ws pc lv st0 :=
  k_callA C hr (fun v w1 ⟨r, e, h⟩ => by subst e; exact kk r w1 h)
theorem k_callAv {mc ms : Nat} {st0 rest : List Value} {P : va_W → Prop} (C : Cx p s m meth c cc nL args Ts own D cA A) (hr : KR p l e R s m args below meth c D A nL cells slots pc st0 rest ws mc ms (PV P))
    (kk : ∀ (w1 : va_W), P w1 → Kf p l e R s m args below meth c D A nL (cells + mc) (slots + ms) Q w1 (pc + 3) lv rest) : Kf p l e R s m args below meth c D A nL cells slots Q ws pc lv st0 :=
  k_callA C hr (fun v w1 ⟨e, h⟩ => by subst e; exact kk w1 h)
theorem k_aald (C : Cx p s m meth c cc nL args Ts own D cA A) {a n y : Nat} {k : ClassId} {f : Nat → Option Nat} {i : Int32} {ty : FieldType} (q0 t0 : Nat) (ha : ws[q0]? = some (a, .inl (k, n, .inr (.inr (.inr (.inr f)))))) (ht : (kT cA)[t0]? = some (k, ty)) (hty : ty.isReference = true) (hin : vp_in i n) (hy : f i.toNatClampNeg = some y) (hdg : decode cc pc = .ok (.aaload, 1))
    (kk : Kf p l e R s m args below meth c D A nL cells slots Q ws (pc + 1) lv (.ref y :: st)) : Kf p l e R s m args below meth c D A nL cells slots Q ws pc lv (.int i :: .ref a :: st) :=
  fun H locs ls hP hD hS hl => by
    have hlt : i.toNatClampNeg < n := Nat.not_le.mp fun q => hin (Or.inr q)
    exact W.aald (v := .ref y) (ty := ty) C.1.1 C.1.2.1 (hP q0 _ ha) ((C.2.1.1.2 t0 _ ht).1 n (fun j => va_rf (f j))) hty (fun q => by cases q) (by show ¬ (i < 0 ∨ (arrV _ _ _).slots.size ≤ _); rw [arrV_size]; exact hin) (by show (arrV _ _ _).slots[_]? = _; rw [arrV_read _ _ hlt, hy]; rfl) rfl rfl hdg (kk H locs ls hP hD hS hl)
theorem k_dup2 (C : Cx p s m meth c cc nL args Ts own D cA A) {v w : Value} (hdg : decode cc pc = .ok (.dup2, 1)) (hv : v.category = 1) (hw : w.category = 1) (kk : Kf p l e R s m args below meth c D A nL cells slots Q ws (pc + 1) lv (v :: w :: v :: w :: st)) : Kf p l e R s m args below meth c D A nL cells slots Q ws pc lv (v :: w :: st) :=
  fun H locs ls hP hD hS hl => lv_dup2_11 C.1.1 C.1.2.1 hdg hv hw (kk H locs ls hP hD hS hl)
theorem k_ishl (C : Cx p s m meth c cc nL args Ts own D cA A) {x y : Int32} (hdg : decode cc pc = .ok (.ishl, 1)) (kk : Kf p l e R s m args below meth c D A nL cells slots Q ws (pc + 1) lv (.int (x <<< (y &&& 31)) :: st)) : Kf p l e R s m args below meth c D A nL cells slots Q ws pc lv (.int y :: .int x :: st) :=
  fun H locs ls hP hD hS hl => lv_ishl C.1.1 C.1.2.1 hdg (kk H locs ls hP hD hS hl)
theorem k_ior (C : Cx p s m meth c cc nL args Ts own D cA A) {x y : Int32} (hdg : decode cc pc = .ok (.ior, 1)) (kk : Kf p l e R s m args below meth c D A nL cells slots Q ws (pc + 1) lv (.int (x ||| y) :: st)) : Kf p l e R s m args below meth c D A nL cells slots Q ws pc lv (.int y :: .int x :: st) :=
  fun H locs ls hP hD hS hl => lv_ior C.1.1 C.1.2.1 hdg (kk H locs ls hP hD hS hl)
theorem k_irem (C : Cx p s m meth c cc nL args Ts own D cA A) {x y : Int32} (hdg : decode cc pc = .ok (.irem, 1)) (hne : ¬ y = 0) (kk : Kf p l e R s m args below meth c D A nL cells slots Q ws (pc + 1) lv (.int (x - x / y * y) :: st)) : Kf p l e R s m args below meth c D A nL cells slots Q ws pc lv (.int y :: .int x :: st) :=
  fun H locs ls hP hD hS hl => lv_irem C.1.1 C.1.2.1 hdg hne (kk H locs ls hP hD hS hl)
end KC
theorem vp_lt {i : Int32} {n : Nat} (h : vp_in i n) : i.toNatClampNeg < n := Nat.not_le.mp fun q => h (Or.inr q)
/-- a value of a matrix -/
def updR (M : Nat → Nat → Int32) (i j : Nat) (x : Int32) : Nat → Nat → Int32 := fun a b => if a = i ∧ b = j then x else M a b
def updW (M : Nat → Nat → Nat → Nat → Int32) (i j k n : Nat) (x : Int32) : Nat → Nat → Nat → Nat → Int32 := fun a b c d => if a = i ∧ b = j ∧ c = k ∧ d = n then x else M a b c d
theorem updR_row (M : Nat → Nat → Int32) (i j : Nat) (x : Int32) : va_up M i (upd (M i) j x) = updR M i j x := by
  funext a b
  unfold va_up upd updR
  by_cases h : a = i
  · subst h
    by_cases h2 : b = j <;> simp [h2]
  · simp [h]
abbrev rfs (f : Nat → Nat) : (Nat → Int32) ⊕ (Nat → Int64) ⊕ (Nat → UInt32) ⊕ (Nat → UInt64) ⊕ (Nat → Option Nat) := .inr (.inr (.inr (.inr (fun j => some (f j)))))
theorem setAll_nil {ws cs : va_W} : setAll ws [] cs = ws := by simp [setAll]
theorem hC2 {ws : va_W} {i j : Nat} {a b : Nat × va_E} (h1 : ws[i]? = some a) (h2 : ws[j]? = some b) : [i, j].map (fun i => ws[i]?) = [a, b].map some := by simp [h1, h2]
theorem nd2 {i j : Nat} (h : i ≠ j) : va_nd [i, j] = true := by simp [va_nd, h]
theorem setAll_r {ws : va_W} {i j : Nat} {a b : Nat × va_E} (h : ws[i]? = some a) : setAll ws [i, j] [a, b] = ws.set j b := by
  have h1 : ws.set i a = ws := by
    refine List.ext_getElem? fun k => ?_
    by_cases hk : i = k
    · subst hk
      have hl := (List.getElem?_eq_some_iff.mp h).1
      rw [List.getElem?_set_self hl, h]
    · rw [List.getElem?_set_ne hk]
  simp [setAll, h1]
abbrev mJ (pre t : va_W) : va_W := pre ++ t
