/-! THE CHANGES, said of d -/
def ParEq (d : Nat → Int32) (p : Nat) (d' : Nat → Int32) (q : Nat) : Prop := ∀ k, k < 34 → d' (11 + 34 * q + k) = d (11 + 34 * p + k)
def HeadEq (d d' : Nat → Int32) : Prop := ∀ j, j < 11 → j ≠ 4 → d' j = d j
section EDT
variable {d d' : Nat → Int32} {p q : Nat}
theorem ParEq.n (h : ParEq d p d' q) : dN d' q = dN d p := congrArg nz (h 3 (by decide))
theorem ParEq.v (h : ParEq d p d' q) {k : Nat} (hk : k < 30) : dV d' q k = dV d p k := congrArg nz (h (4 + k) (by omega))
theorem ParEq.hd (h : ParEq d p d' q) : dHd d' q = dHd d p := congrArg (fun x => x == nI 1) (h 0 (by decide))
theorem ParEq.b (h : ParEq d p d' q) : dB d' q = dB d p := congrArg (fun x => x == nI 1) (h 1 (by decide))
theorem ParEq.f (h : ParEq d p d' q) : dF d' q = dF d p := h 2 (by decide)
theorem ParEq.ok (h : ParEq d p d' q) (ho : OkP d p) : OkP d' q := by
  obtain ⟨h1, h2, h3, h4, h5, h6, h7⟩ := ho
  refine ⟨?_, ?_, ?_, ?_, ?_, ?_, fun k hk => ?_⟩
  · rw [h.hd, ← h1]; exact h 0 (by decide)
  · rw [h.b, ← h2]; exact h 1 (by decide)
  · rw [h.f]; exact h3
  · rw [h.n, ← h4]; exact h 3 (by decide)
  · rw [h.n]; exact h5
  · rw [h.n]; exact h6
  · rw [h.n] at hk
    have := h7 k hk
    rw [h.v (by omega), ← this.1]
    exact ⟨h (4 + k) (by omega), this.2⟩
theorem HeadEq.c (h : HeadEq d d') {k : Nat} (hk : k < 6) : dC d' k = dC d k := congrArg nz (h (5 + k) (by omega) (by omega))
theorem HeadEq.w (h : HeadEq d d') : dW d' = dW d := congrArg nz (h 0 (by decide) (by decide))
theorem HeadEq.h (h : HeadEq d d') : dH d' = dH d := congrArg nz (h 1 (by decide) (by decide))
theorem HeadEq.s (h : HeadEq d d') : dS d' = dS d := congrArg nz (h 2 (by decide) (by decide))
theorem HeadEq.l (h : HeadEq d d') : dL d' = dL d := congrArg nz (h 3 (by decide) (by decide))
theorem HeadEq.ok (h : HeadEq d d') (hO : OkB d) {P : Nat} (hP : d' 4 = nI P) (h16 : P ≤ 16) (hp : ∀ p, p < P → OkP d' p) : OkB d' := by
  have e : dP d' = P := by show nz (d' 4) = P; rw [hP, nz_nI (by omega)]
  refine ⟨⟨?_, ?_, ?_⟩, ⟨?_, ?_, ?_⟩, ⟨?_, ?_⟩, ⟨?_, ?_⟩, ⟨?_, ?_⟩, fun k hk => ⟨?_, ?_⟩, fun p hpp => hp p (by rw [e] at hpp; exact hpp)⟩
  · rw [h 0 (by decide) (by decide), h.w]; exact hO.w
  · rw [h.w]; exact hO.w10
  · rw [h.w]; exact hO.w60
  · rw [h 1 (by decide) (by decide), h.h]; exact hO.h
  · rw [h.h]; exact hO.h2
  · rw [h.h]; exact hO.h40
  · rw [h 2 (by decide) (by decide), h.s]; exact hO.s
  · rw [h.s]; exact hO.s9
  · rw [h 3 (by decide) (by decide), h.l]; exact hO.l
  · rw [h.l]; exact hO.l9
  · rw [e]; exact hP
  · rw [e]; exact h16
  · rw [h (5 + k) (by omega) (by omega), h.c hk]; exact hO.c hk
  · rw [h.c hk]; exact hO.c999 hk
end EDT
/-! the books that come of a change -/
def insD (d : Nat → Int32) (at_ words len : Nat) : Nat → Int32 := fun j =>
  if j = 4 then nI (dP d + 1) else if j < 11 + 34 * at_ then d j else if j < 11 + 34 * at_ + 34 then
    (if j = 11 + 34 * at_ + 2 then -1 else if j = 11 + 34 * at_ + 3 then nI words else if 11 + 34 * at_ + 4 ≤ j ∧ j < 11 + 34 * at_ + 4 + words then nI len else nI 0)
  else if j < 11 + 34 * (dP d + 1) then d (j - 34) else d j
def rmD (d : Nat → Int32) (p : Nat) : Nat → Int32 := fun j => if j = 4 then nI (dP d - 1) else if j < 11 + 34 * p then d j else if j < 11 + 34 * (dP d - 1) then d (j + 34) else d j
def retD (d : Nat → Int32) (p k len : Nat) : Nat → Int32 := fun j =>
  if len = 0 then (if j = 11 + 34 * p + 3 then nI (dN d p - 1) else if 11 + 34 * p + (4 + k) ≤ j ∧ j < 11 + 34 * p + (4 + (dN d p - 1)) then d (j + 1) else d j)
  else (if j = 11 + 34 * p + (4 + k) then nI len else if j = 11 + 34 * p + 3 then nI (if k = dN d p then dN d p + 1 else dN d p) else d j)
section EDU
variable {d : Nat → Int32} {p : Nat}
theorem upd_par {i : Nat} {x : Int32} (hi : 11 + 34 * p ≤ i) (hi2 : i < 11 + 34 * p + 34) {q : Nat} (hq : q ≠ p) : ParEq d q (upd d i x) q := fun k hk => pk_un (by omega)
theorem upd_head {i : Nat} {x : Int32} (hi : 11 ≤ i) : HeadEq d (upd d i x) := fun j hj _ => pk_un (by omega)
theorem fix_ok (hO : OkB d) (hp : p < dP d) {x : Int32} (hx : x = -1 ∨ x = nI 0 ∨ x = nI 1 ∨ x = nI 2) : OkB (upd d (11 + 34 * p + 2) x) ∧ dP (upd d (11 + 34 * p + 2) x) = dP d := by
  have h4 : upd d (11 + 34 * p + 2) x 4 = d 4 := pk_un (by omega)
  refine ⟨HeadEq.ok (upd_head (by omega)) hO (h4.trans hO.p) hO.p16 (fun q hq => ?_), congrArg nz h4⟩
  by_cases g : q = p
  · subst g
    have u : ∀ k, k ≠ 2 → upd d (11 + 34 * q + 2) x (11 + 34 * q + k) = d (11 + 34 * q + k) := fun k hk => pk_un (by omega)
    obtain ⟨h1, h2, h3, h5, h6, h7, h8⟩ := hO.par hp
    have e3 : dN (upd d (11 + 34 * q + 2) x) q = dN d q := congrArg nz (u 3 (by decide))
    refine ⟨?_, ?_, ?_, ?_, ?_, ?_, fun k hk => ?_⟩
    · have := u 0 (by decide); rw [show dHd (upd d (11 + 34 * q + 2) x) q = dHd d q from congrArg (fun x => x == nI 1) this, ← h1]; exact this
    · have := u 1 (by decide); rw [show dB (upd d (11 + 34 * q + 2) x) q = dB d q from congrArg (fun x => x == nI 1) this, ← h2]; exact this
    · have : dF (upd d (11 + 34 * q + 2) x) q = x := pk_us
      rw [this]; exact hx
    · rw [e3, ← h5]; exact u 3 (by decide)
    · rw [e3]; exact h6
    · rw [e3]; exact h7
    · rw [e3] at hk
      have e4 := u (4 + k) (by omega)
      have := h8 k hk
      rw [show dV (upd d (11 + 34 * q + 2) x) q k = dV d q k from congrArg nz e4, ← this.1]
      exact ⟨e4, this.2⟩
  · exact (upd_par (by omega) (by omega) g).ok (hO.par hq)
theorem begin_ok (hO : OkB d) (hp : p < dP d) (b : Bool) : OkB (upd d (11 + 34 * p + 1) (bI b)) ∧ dP (upd d (11 + 34 * p + 1) (bI b)) = dP d := by
  have h4 : upd d (11 + 34 * p + 1) (bI b) 4 = d 4 := pk_un (by omega)
  refine ⟨HeadEq.ok (upd_head (by omega)) hO (h4.trans hO.p) hO.p16 (fun q hq => ?_), congrArg nz h4⟩
  by_cases g : q = p
  · subst g
    have u : ∀ k, k ≠ 1 → upd d (11 + 34 * q + 1) (bI b) (11 + 34 * q + k) = d (11 + 34 * q + k) := fun k hk => pk_un (by omega)
    obtain ⟨h1, h2, h3, h5, h6, h7, h8⟩ := hO.par hp
    have e3 : dN (upd d (11 + 34 * q + 1) (bI b)) q = dN d q := congrArg nz (u 3 (by decide))
    have e1 : upd d (11 + 34 * q + 1) (bI b) (11 + 34 * q + 1) = bI b := pk_us
    refine ⟨?_, ?_, ?_, ?_, ?_, ?_, fun k hk => ?_⟩
    · have := u 0 (by decide); rw [show dHd (upd d (11 + 34 * q + 1) (bI b)) q = dHd d q from congrArg (fun x => x == nI 1) this, ← h1]; exact this
    · have : dB (upd d (11 + 34 * q + 1) (bI b)) q = b := by
        show (upd d (11 + 34 * q + 1) (bI b) (11 + 34 * q + 1) == nI 1) = b
        rw [e1]; cases b <;> decide
      rw [this]; exact e1
    · have : dF (upd d (11 + 34 * q + 1) (bI b)) q = dF d q := u 2 (by decide)
      rw [this]; exact h3
    · rw [e3, ← h5]; exact u 3 (by decide)
    · rw [e3]; exact h6
    · rw [e3]; exact h7
    · rw [e3] at hk
      have e4 := u (4 + k) (by omega)
      have := h8 k hk
      rw [show dV (upd d (11 + 34 * q + 1) (bI b)) q k = dV d q k from congrArg nz e4, ← this.1]
      exact ⟨e4, this.2⟩
  · exact (upd_par (by omega) (by omega) g).ok (hO.par hq)
theorem cost_ok (hO : OkB d) {k c : Nat} (hk : k < 6) (hc : c ≤ 999) : OkB (upd d (5 + k) (nI c)) ∧ dP (upd d (5 + k) (nI c)) = dP d := by
  have u : ∀ j, j ≠ 5 + k → upd d (5 + k) (nI c) j = d j := fun j hj => pk_un hj
  have hpar : ∀ q, ParEq d q (upd d (5 + k) (nI c)) q := fun q i hi => u _ (by omega)
  have eP : dP (upd d (5 + k) (nI c)) = dP d := congrArg nz (u 4 (by omega))
  have ew : dW (upd d (5 + k) (nI c)) = dW d := congrArg nz (u 0 (by omega))
  have eh : dH (upd d (5 + k) (nI c)) = dH d := congrArg nz (u 1 (by omega))
  have es : dS (upd d (5 + k) (nI c)) = dS d := congrArg nz (u 2 (by omega))
  have el : dL (upd d (5 + k) (nI c)) = dL d := congrArg nz (u 3 (by omega))
  refine ⟨⟨⟨?_, ?_, ?_⟩, ⟨?_, ?_, ?_⟩, ⟨?_, ?_⟩, ⟨?_, ?_⟩, ⟨?_, ?_⟩, fun i hi => ?_, fun p hpp => (hpar p).ok (hO.par (by rw [eP] at hpp; exact hpp))⟩, eP⟩
  · rw [u 0 (by omega), ew]; exact hO.w
  · rw [ew]; exact hO.w10
  · rw [ew]; exact hO.w60
  · rw [u 1 (by omega), eh]; exact hO.h
  · rw [eh]; exact hO.h2
  · rw [eh]; exact hO.h40
  · rw [u 2 (by omega), es]; exact hO.s
  · rw [es]; exact hO.s9
  · rw [u 3 (by omega), el]; exact hO.l
  · rw [el]; exact hO.l9
  · rw [u 4 (by omega), eP]; exact hO.p
  · rw [eP]; exact hO.p16
  · by_cases g : i = k
    · subst g
      have e : upd d (5 + i) (nI c) (5 + i) = nI c := pk_us
      have e2 : dC (upd d (5 + i) (nI c)) i = c := by show nz (upd d (5 + i) (nI c) (5 + i)) = c; rw [e, nz_nI (by omega)]
      rw [e2]; exact ⟨e, hc⟩
    · have e := u (5 + i) (by omega)
      rw [show dC (upd d (5 + k) (nI c)) i = dC d i from congrArg nz e, e]
      exact ⟨hO.c hi, hO.c999 hi⟩
theorem rm_ok (hO : OkB d) (hp : p < dP d) : OkB (rmD d p) ∧ dP (rmD d p) = dP d - 1 ∧ HeadEq d (rmD d p) ∧ (∀ q, q < p → ParEq d q (rmD d p) q) ∧ ∀ q, p ≤ q → q < dP d - 1 → ParEq d (q + 1) (rmD d p) q := by
  have h16 := hO.p16
  have hH : HeadEq d (rmD d p) := fun j hj h4 => by unfold rmD; rw [if_neg h4, if_pos (by omega)]
  have h4 : rmD d p 4 = nI (dP d - 1) := rfl
  have a : ∀ q, q < p → ParEq d q (rmD d p) q := fun q hq k hk => by unfold rmD; rw [if_neg (by omega), if_pos (by omega)]
  have b : ∀ q, p ≤ q → q < dP d - 1 → ParEq d (q + 1) (rmD d p) q := fun q h1 h2 k hk => by
    unfold rmD
    rw [if_neg (by omega), if_neg (by omega), if_pos (by omega)]
    exact congrArg d (by omega)
  refine ⟨hH.ok hO h4 (by omega) (fun q hq => ?_), ?_, hH, a, b⟩
  · rcases Nat.lt_or_ge q p with g | g
    · exact (a q g).ok (hO.par (by omega))
    · exact (b q g hq).ok (hO.par (by omega))
  · show nz (nI (dP d - 1)) = _
    exact nz_nI (by omega)
theorem ins_ok (hO : OkB d) {at_ words len : Nat} (ha : at_ ≤ dP d) (hP : dP d < 16) (hw : 1 ≤ words) (hw2 : words ≤ 30) (hl : len ≤ 60) : OkB (insD d at_ words len) ∧ dP (insD d at_ words len) = dP d + 1 ∧ HeadEq d (insD d at_ words len) ∧ (∀ q, q < at_ → ParEq d q (insD d at_ words len) q) ∧ (∀ q, at_ < q → q ≤ dP d → ParEq d (q - 1) (insD d at_ words len) q) ∧ dN (insD d at_ words len) at_ = words ∧ (∀ k, k < words → dV (insD d at_ words len) at_ k = len) ∧ dHd (insD d at_ words len) at_ = false ∧ dB (insD d at_ words len) at_ = false ∧ dF (insD d at_ words len) at_ = -1 := by
  have hH : HeadEq d (insD d at_ words len) := fun j hj h4 => by unfold insD; rw [if_neg h4, if_pos (by omega)]
  have h4 : insD d at_ words len 4 = nI (dP d + 1) := rfl
  have a : ∀ q, q < at_ → ParEq d q (insD d at_ words len) q := fun q hq k hk => by unfold insD; rw [if_neg (by omega), if_pos (by omega)]
  have b : ∀ q, at_ < q → q ≤ dP d → ParEq d (q - 1) (insD d at_ words len) q := fun q h1 h2 k hk => by
    unfold insD
    rw [if_neg (by omega), if_neg (by omega), if_neg (by omega), if_pos (by omega)]
    exact congrArg d (by omega)
  have m : ∀ k, k < 34 → insD d at_ words len (11 + 34 * at_ + k) = if k = 2 then -1 else if k = 3 then nI words else if 4 ≤ k ∧ k < 4 + words then nI len else nI 0 := fun k hk => by
    unfold insD
    rw [if_neg (by omega), if_neg (by omega), if_pos (by omega)]
    by_cases g2 : k = 2
    · rw [if_pos (by omega), if_pos g2]
    · rw [if_neg (by omega), if_neg g2]
      by_cases g3 : k = 3
      · rw [if_pos (by omega), if_pos g3]
      · rw [if_neg (by omega), if_neg g3]
        by_cases g4 : 4 ≤ k ∧ k < 4 + words
        · rw [if_pos (by omega), if_pos g4]
        · rw [if_neg (by omega), if_neg g4]
  have m0 : insD d at_ words len (11 + 34 * at_) = nI 0 := (m 0 (by decide)).trans (by rw [if_neg (by decide), if_neg (by decide), if_neg (by omega)])
  have m1 : insD d at_ words len (11 + 34 * at_ + 1) = nI 0 := (m 1 (by decide)).trans (by rw [if_neg (by decide), if_neg (by decide), if_neg (by omega)])
  have m2 : insD d at_ words len (11 + 34 * at_ + 2) = -1 := m 2 (by decide)
  have m3 : insD d at_ words len (11 + 34 * at_ + 3) = nI words := m 3 (by decide)
  have mv : ∀ k, k < words → insD d at_ words len (11 + 34 * at_ + (4 + k)) = nI len := fun k hk => (m (4 + k) (by omega)).trans (by rw [if_neg (by omega), if_neg (by omega), if_pos (by omega)])
  have eN : dN (insD d at_ words len) at_ = words := by show nz _ = _; rw [m3, nz_nI (by omega)]
  have eV : ∀ k, k < words → dV (insD d at_ words len) at_ k = len := fun k hk => by show nz _ = _; rw [mv k hk, nz_nI (by omega)]
  have eH : dHd (insD d at_ words len) at_ = false := by show (_ == nI 1) = _; rw [m0]; decide
  have eB : dB (insD d at_ words len) at_ = false := by show (_ == nI 1) = _; rw [m1]; decide
  refine ⟨hH.ok hO h4 (by omega) (fun q hq => ?_), ?_, hH, a, b, eN, eV, eH, eB, m2⟩
  · rcases Nat.lt_trichotomy q at_ with g | g | g
    · exact (a q g).ok (hO.par (by omega))
    · subst g
      refine ⟨by rw [eH]; exact m0, by rw [eB]; exact m1, Or.inl m2, by rw [eN]; exact m3, by omega, by omega, fun k hk => ?_⟩
      rw [eN] at hk
      rw [eV k hk]
      exact ⟨mv k hk, hl⟩
    · exact (b q g (by omega)).ok (hO.par (by omega))
  · show nz (nI (dP d + 1)) = _
    exact nz_nI (by omega)
theorem ret_ok (hO : OkB d) (hp : p < dP d) {k len : Nat} (hk : k ≤ dN d p) (hl : len ≤ 60) (h0 : len = 0 → k < dN d p ∧ dN d p ≠ 1) (h1 : len ≠ 0 → k < 30) : OkB (retD d p k len) ∧ dP (retD d p k len) = dP d ∧ HeadEq d (retD d p k len) ∧ (∀ q, q ≠ p → ParEq d q (retD d p k len) q) ∧ dHd (retD d p k len) p = dHd d p ∧ dB (retD d p k len) p = dB d p ∧ dF (retD d p k len) p = dF d p ∧ dN (retD d p k len) p = (if len = 0 then dN d p - 1 else if k = dN d p then dN d p + 1 else dN d p) ∧ (∀ i, i < dN (retD d p k len) p → dV (retD d p k len) p i = (if len = 0 then (if k ≤ i then dV d p (i + 1) else dV d p i) else if i = k then len else dV d p i)) := by
  have n1 := hO.n1 hp
  have n30 := hO.n30 hp
  have hH : HeadEq d (retD d p k len) := fun j hj h4 => by
    unfold retD
    split
    · rw [if_neg (by omega), if_neg (by omega)]
    · rw [if_neg (by omega), if_neg (by omega)]
  have h4 : retD d p k len 4 = d 4 := by
    unfold retD
    split
    · rw [if_neg (by omega), if_neg (by omega)]
    · rw [if_neg (by omega), if_neg (by omega)]
  have a : ∀ q, q ≠ p → ParEq d q (retD d p k len) q := fun q hq i hi => by
    unfold retD
    split
    · next e =>
      have := h0 e
      rw [if_neg (by omega), if_neg (by omega)]
    · next e =>
      have := h1 e
      rw [if_neg (by omega), if_neg (by omega)]
  have u : ∀ i, i < 3 → retD d p k len (11 + 34 * p + i) = d (11 + 34 * p + i) := fun i hi => by
    unfold retD
    split
    · rw [if_neg (by omega), if_neg (by omega)]
    · rw [if_neg (by omega), if_neg (by omega)]
  have e0 : dHd (retD d p k len) p = dHd d p := congrArg (fun x => x == nI 1) (u 0 (by decide))
  have e1 : dB (retD d p k len) p = dB d p := congrArg (fun x => x == nI 1) (u 1 (by decide))
  have e2 : dF (retD d p k len) p = dF d p := u 2 (by decide)
  have m3 : retD d p k len (11 + 34 * p + 3) = nI (if len = 0 then dN d p - 1 else if k = dN d p then dN d p + 1 else dN d p) := by
    unfold retD
    split
    · rw [if_pos rfl]
    · rw [if_neg (by omega), if_pos rfl]
  have eN : dN (retD d p k len) p = (if len = 0 then dN d p - 1 else if k = dN d p then dN d p + 1 else dN d p) := by
    show nz _ = _
    rw [m3, nz_nI]
    split <;> (try split) <;> omega
  have hb : 1 ≤ dN (retD d p k len) p ∧ dN (retD d p k len) p ≤ 30 := by
    rw [eN]
    by_cases e : len = 0
    · have := h0 e
      rw [if_pos e]; omega
    · have := h1 e
      rw [if_neg e]
      split <;> omega
  have mv : ∀ i, i < dN (retD d p k len) p → retD d p k len (11 + 34 * p + (4 + i)) = nI (if len = 0 then (if k ≤ i then dV d p (i + 1) else dV d p i) else if i = k then len else dV d p i) ∧ (if len = 0 then (if k ≤ i then dV d p (i + 1) else dV d p i) else if i = k then len else dV d p i) ≤ 60 := fun i hi => by
    rw [eN] at hi
    unfold retD
    by_cases e : len = 0
    · have := h0 e
      rw [if_pos e] at hi
      rw [if_pos e, if_neg (by omega), if_pos e]
      by_cases g : k ≤ i
      · rw [if_pos (by omega), if_pos g]
        exact ⟨(congrArg d (by omega)).trans (hO.v hp (show i + 1 < dN d p by omega)), hO.v60 hp (by omega)⟩
      · rw [if_neg (by omega), if_neg g]
        exact ⟨hO.v hp (by omega), hO.v60 hp (by omega)⟩
    · have := h1 e
      rw [if_neg e] at hi
      rw [if_neg e, if_neg e]
      by_cases g : i = k
      · rw [if_pos (by omega), if_pos g]
        exact ⟨rfl, hl⟩
      · have hi2 : i < dN d p := by split at hi <;> omega
        rw [if_neg (by omega), if_neg (by omega), if_neg g]
        exact ⟨hO.v hp hi2, hO.v60 hp hi2⟩
  have eV : ∀ i, i < dN (retD d p k len) p → dV (retD d p k len) p i = (if len = 0 then (if k ≤ i then dV d p (i + 1) else dV d p i) else if i = k then len else dV d p i) := fun i hi => by
    have := mv i hi
    show nz _ = _
    rw [this.1, nz_nI (by omega)]
  refine ⟨hH.ok hO (h4.trans hO.p) hO.p16 (fun q hq => ?_), congrArg nz h4, hH, a, e0, e1, e2, eN, eV⟩
  by_cases g : q = p
  · subst g
    refine ⟨by rw [e0]; exact (u 0 (by decide)).trans (hO.hd hp), by rw [e1]; exact (u 1 (by decide)).trans (hO.b hp), by rw [e2]; exact hO.f hp, ?_, hb.1, hb.2, fun i hi => ?_⟩
    · rw [eN]; exact m3
    · rw [eV i hi]; exact mv i hi
  · exact (a q g).ok (hO.par hq)
end EDU
