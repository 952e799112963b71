/-- rows that agree below 555 -/
def E5 (a b : Nat → Int32) : Prop := ∀ j, j < 555 → b j = a j
/-! ROWS THAT AGREE BELOW 555: what the class's cells say of the one they say of the other. -/
section E5S
variable {d d' : Nat → Int32} {costs rows counts taken : Nat → Int32} {p s : Nat}
theorem E5.head (he : E5 d d') : HeadEq d d' := fun j hj _ => he j (by omega)
theorem E5.P (he : E5 d d') : dP d' = dP d := congrArg nz (he 4 (by decide))
theorem OkB_E5 (hO : OkB d) (he : E5 d d') : OkB d' :=
  he.head.ok hO ((he 4 (by decide)).trans hO.p) hO.p16 (fun p hp => (he.par (Nat.lt_of_lt_of_le hp hO.p16)).ok (hO.par hp))
theorem CB_E5 {w h s l P : Int32} (hO : OkB d) (he : E5 d d') (hB : CB d w h s l P costs rows) : CB d' w h s l P costs rows := by
  obtain ⟨a, b, c, e, f, g, i⟩ := hB
  refine ⟨by rw [he.head.w]; exact a, by rw [he.head.h]; exact b, by rw [he.head.s]; exact c, by rw [he.head.l]; exact e, by rw [he.P]; exact f, fun k hk => by rw [he.head.c hk]; exact g k hk, fun p hp => ?_⟩
  rw [he.P] at hp
  exact CPar_eq (hO.n30 hp) (i p hp) (he.par (Nat.lt_of_lt_of_le hp hO.p16)) (fun k hk => rfl)
theorem CHist_E5 {hist hist' : Nat → Nat → Int32} {n : Nat} {hn hk : Int32} {hW hH hS hL hP : Nat → Int32} {hC hR : Nat → Nat → Int32} (he : ∀ i, i < n → E5 (hist i) (hist' i)) (hh : CHist hist n hn hk hW hH hS hL hP hC hR) : CHist hist' n hn hk hW hH hS hL hP hC hR := by
  obtain ⟨x, hx, e1, e2, e3, hi⟩ := hh
  exact ⟨x, hx, e1, e2, e3, fun i h => ⟨OkB_E5 (hi i h).1 (he i h), CB_E5 (hi i h).1 (he i h) (hi i h).2⟩⟩
theorem hol_E5 (he : E5 d d') (s : Nat) : hol d' s = hol d s := by
  unfold hol
  rw [he.head.w, he.head.s]
theorem brk_E5 (he : E5 d d') (hp : p < 16) (s : Nat) : ∀ k, k ≤ 30 → brk d' p s k = brk d p s k
  | 0, _ => rfl
  | k + 1, hk => by
    unfold brk
    rw [brk_E5 he hp s k (by omega), (he.par hp).v (by omega), hol_E5 he]
theorem tkn_E5 (he : E5 d d') (hp : p < 16) (s : Nat) : ∀ k, k ≤ 30 → tkn d' p s k = tkn d p s k
  | 0, _ => rfl
  | k + 1, hk => by
    funext j
    unfold tkn
    rw [brk_E5 he hp s (k + 1) hk, tkn_E5 he hp s k (by omega)]
theorem CL_E5 (hO : OkB d) (he : E5 d d') (hL : CL d counts taken) : CL d' counts taken := by
  intro p hp s hs
  rw [he.P] at hp
  have hp16 := Nat.lt_of_lt_of_le hp hO.p16
  have h30 := hO.n30 hp
  have hn : dN d' p = dN d p := (he.par hp16).n
  have hc : cnt d' p s = cnt d p s := by
    unfold cnt
    rw [hn, brk_E5 he hp16 s _ h30]
  obtain ⟨h1, h2⟩ := hL p hp s hs
  refine ⟨h1.trans (by rw [hc]), fun j hj => ?_⟩
  rw [hc] at hj
  rw [h2 j hj]
  unfold tln
  rw [hn, tkn_E5 he hp16 s _ h30]
end E5S
