/-- two rows agree where a book lies -/
def E5 (a b : Nat → Int32) : Prop := ∀ j, j < 555 → b j = a j
section E5S
variable {a b : Nat → Int32}
theorem E5.w (h : E5 a b) : dW b = dW a := congrArg nz (h 0 (by decide))
theorem E5.h (h : E5 a b) : dH b = dH a := congrArg nz (h 1 (by decide))
theorem E5.s (h : E5 a b) : dS b = dS a := congrArg nz (h 2 (by decide))
theorem E5.l (h : E5 a b) : dL b = dL a := congrArg nz (h 3 (by decide))
theorem E5.p (h : E5 a b) : dP b = dP a := congrArg nz (h 4 (by decide))
theorem E5.c (h : E5 a b) {k : Nat} (hk : k < 6) : dC b k = dC a k := congrArg nz (h _ (by omega))
theorem E5.par (h : E5 a b) {p : Nat} (hp : p < 16) : ParEq a p b p := fun k hk => h _ (by omega)
theorem E5.ok (h : E5 a b) (hO : OkB a) : OkB b := by
  have h16 := hO.p16
  refine ⟨⟨?_, ?_, ?_⟩, ⟨?_, ?_, ?_⟩, ⟨?_, ?_⟩, ⟨?_, ?_⟩, ⟨?_, ?_⟩, fun k hk => ⟨?_, ?_⟩, fun p hpp => (h.par (by rw [h.p] at hpp; omega)).ok (hO.par (by rw [h.p] at hpp; exact hpp))⟩
  · rw [h 0 (by decide), h.w]; exact hO.w
  · rw [h.w]; exact hO.w10
  · rw [h.w]; exact hO.w60
  · rw [h 1 (by decide), h.h]; exact hO.h
  · rw [h.h]; exact hO.h2
  · rw [h.h]; exact hO.h40
  · rw [h 2 (by decide), h.s]; exact hO.s
  · rw [h.s]; exact hO.s9
  · rw [h 3 (by decide), h.l]; exact hO.l
  · rw [h.l]; exact hO.l9
  · rw [h 4 (by decide), h.p]; exact hO.p
  · rw [h.p]; exact h16
  · rw [h _ (by omega), h.c hk]; exact hO.c hk
  · rw [h.c hk]; exact hO.c999 hk
theorem E5.cb (h : E5 a b) (hO : OkB a) {w hh s l P : Int32} {costs rows : Nat → Int32} (hB : CB a w hh s l P costs rows) : CB b w hh s l P costs rows := by
  obtain ⟨h1, h2, h3, h4, h5, h6, h7⟩ := hB
  have h16 := hO.p16
  refine ⟨by rw [h.w]; exact h1, by rw [h.h]; exact h2, by rw [h.s]; exact h3, by rw [h.l]; exact h4, by rw [h.p]; exact h5, fun k hk => by rw [h.c hk]; exact h6 k hk, fun p hp => ?_⟩
  rw [h.p] at hp
  exact CPar_eq (hO.n30 hp) (h7 p hp) (h.par (by omega)) (fun k hk => rfl)
end E5S
/-! ROWS THAT AGREE BELOW 555: what the class's cells say of the one they say of the other. -/
section E5S
variable {d d' : Nat → Int32} {costs rows counts taken : Nat → Int32} {p s : Nat}
theorem E5.head (he : E5 d d') : HeadEq d d' := fun j hj _ => he j (by omega)
theorem E5.P (he : E5 d d') : dP d' = dP d := congrArg nz (he 4 (by decide))
theorem OkB_E5 (hO : OkB d) (he : E5 d d') : OkB d' :=
  he.head.ok hO ((he 4 (by decide)).trans hO.p) hO.p16 (fun p hp => (he.par (Nat.lt_of_lt_of_le hp hO.p16)).ok (hO.par hp))
theorem CB_E5 {w h s l P : Int32} (hO : OkB d) (he : E5 d d') (hB : CB d w h s l P costs rows) : CB d' w h s l P costs rows := by
  obtain ⟨a, b, c, e, f, g, i⟩ := hB
  refine ⟨by rw [he.head.w]; exact a, by rw [he.head.h]; exact b, by rw [he.head.s]; exact c, by rw [he.head.l]; exact e, by rw [he.P]; exact f, fun k hk => by rw [he.head.c hk]; exact g k hk, fun p hp => ?_⟩
  rw [he.P] at hp
  exact CPar_eq (hO.n30 hp) (i p hp) (he.par (Nat.lt_of_lt_of_le hp hO.p16)) (fun k hk => rfl)
theorem CHist_E5 {hist hist' : Nat → Nat → Int32} {n : Nat} {hn hk : Int32} {hW hH hS hL hP : Nat → Int32} {hC hR : Nat → Nat → Int32} (he : ∀ i, i < n → E5 (hist i) (hist' i)) (hh : CHist hist n hn hk hW hH hS hL hP hC hR) : CHist hist' n hn hk hW hH hS hL hP hC hR := by
  obtain ⟨x, hx, e1, e2, e3, hi⟩ := hh
  exact ⟨x, hx, e1, e2, e3, fun i h => ⟨OkB_E5 (hi i h).1 (he i h), CB_E5 (hi i h).1 (he i h) (hi i h).2⟩⟩
theorem hol_E5 (he : E5 d d') (s : Nat) : hol d' s = hol d s := by
  unfold hol
  rw [he.head.w, he.head.s]
theorem brk_E5 (he : E5 d d') (hp : p < 16) (s : Nat) : ∀ k, k ≤ 30 → brk d' p s k = brk d p s k
  | 0, _ => rfl
  | k + 1, hk => by
    unfold brk
    rw [brk_E5 he hp s k (by omega), (he.par hp).v (by omega), hol_E5 he]
theorem tkn_E5 (he : E5 d d') (hp : p < 16) (s : Nat) : ∀ k, k ≤ 30 → tkn d' p s k = tkn d p s k
  | 0, _ => rfl
  | k + 1, hk => by
    funext j
    unfold tkn
    rw [brk_E5 he hp s (k + 1) hk, tkn_E5 he hp s k (by omega)]
theorem CL_E5 (hO : OkB d) (he : E5 d d') (hL : CL d counts taken) : CL d' counts taken := by
  intro p hp s hs
  rw [he.P] at hp
  have hp16 := Nat.lt_of_lt_of_le hp hO.p16
  have h30 := hO.n30 hp
  have hn : dN d' p = dN d p := (he.par hp16).n
  have hc : cnt d' p s = cnt d p s := by
    unfold cnt
    rw [hn, brk_E5 he hp16 s _ h30]
  obtain ⟨h1, h2⟩ := hL p hp s hs
  refine ⟨h1.trans (by rw [hc]), fun j hj => ?_⟩
  rw [hc] at hj
  rw [h2 j hj]
  unfold tln
  rw [hn, tkn_E5 he hp16 s _ h30]
end E5S
