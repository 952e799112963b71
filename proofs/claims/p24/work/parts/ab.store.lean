/-! BOOKS KEPT APART, by colours of their cells -/
def LB (k0 k1 : Nat → Nat) (m : Mu) (b : Nat) (d : Nat → Int32) : Prop := ∃ c ps st g wd bs, BK m b d c ps st g wd bs ∧ k0 c = 3 * b + 1 ∧ k0 st = 3 * b + 2 ∧ (∀ p, p < dP d → k1 (g p) = b ∧ k0 (wd p) = 0) ∧ ∀ p p', p < dP d → p' < dP d → g p = g p' → p = p'
def exK (k0 k1 : Nat → Nat) (b : Nat) : Nat → Nat → Prop := fun t a => (t = 2 ∧ a = b) ∨ (t = 0 ∧ (k0 a = 3 * b + 1 ∨ k0 a = 3 * b + 2)) ∨ (t = 1 ∧ k1 a = b)
def KX (m : Mu) (k0 k1 k0' k1' : Nat → Nat) : Prop := (∀ a, mI m a ≠ none → k0' a = k0 a) ∧ ∀ a, mP m a ≠ none → k1' a = k1 a
section STO
variable {k0 k1 k0' k1' : Nat → Nat} {m m' : Mu} {b b' : Nat} {d : Nat → Int32} {cB : Nat}
theorem ne_some {α : Type} {x : Option α} {y : α} (h : x = some y) : x ≠ none := fun z => by rw [h] at z; cases z
theorem LB.fx {e : Nat → Nat → Prop} (h : LB k0 k1 m b d) (f : Fx e m m') (n2 : ¬ e 2 b) (n0 : ∀ a, e 0 a → k0 a ≠ 3 * b + 1 ∧ k0 a ≠ 3 * b + 2 ∧ k0 a ≠ 0) (n1 : ∀ a, e 1 a → k1 a ≠ b) (n5 : ∀ a, ¬ e 5 a) : LB k0 k1 m' b d := by
  obtain ⟨c, ps, st, g, wd, bs, hB, h1, h2, h3, h4⟩ := h
  exact ⟨c, ps, st, g, wd, bs, hB.fx f n2 (fun w => (n0 c w).1 h1) (fun w => (n0 st w).2.1 h2) (n5 ps) (fun p hp => ⟨fun w => n1 _ w (h3 p hp).1, fun w => (n0 _ w).2.2 (h3 p hp).2⟩), h1, h2, h3, h4⟩
theorem LB.f0 (h : LB k0 k1 m b d) (f : Fx e0 m m') : LB k0 k1 m' b d := h.fx f (fun w => w) (fun a w => w.elim) (fun a w => w.elim) (fun a w => w)
theorem LB.other (h : LB k0 k1 m b' d) (f : Fx (exK k0 k1 b) m m') (hne : b' ≠ b) : LB k0 k1 m' b' d := by
  refine h.fx f (fun w => ?_) (fun a w => ?_) (fun a w => ?_) (fun a w => ?_)
  · rcases w with w | w | w
    · exact hne w.2
    · exact absurd w.1 (by decide)
    · exact absurd w.1 (by decide)
  · rcases w with w | w | w
    · exact absurd w.1 (by decide)
    · have := w.2
      omega
    · exact absurd w.1 (by decide)
  · rcases w with w | w | w
    · exact absurd w.1 (by decide)
    · exact absurd w.1 (by decide)
    · exact fun z => hne (by rw [← z, w.2])
  · rcases w with w | w | w
    · exact absurd w.1 (by decide)
    · exact absurd w.1 (by decide)
    · exact absurd w.1 (by decide)
theorem LB.col (h : LB k0 k1 m b d) (k : KX m k0 k1 k0' k1') : LB k0' k1' m b d := by
  obtain ⟨c, ps, st, g, wd, bs, hB, h1, h2, h3, h4⟩ := h
  obtain ⟨j1, ⟨fc, j2, -⟩, -, j4, ft, j5⟩ := id hB
  refine ⟨c, ps, st, g, wd, bs, hB, by rw [k.1 c (ne_some j2)]; exact h1, by rw [k.1 st (ne_some j5)]; exact h2, fun p hp => ?_, h4⟩
  obtain ⟨j6, fw, j7, -⟩ := j4 p hp
  rw [k.1 _ (ne_some j7), k.2 _ (ne_some j6)]
  exact h3 p hp
theorem LB.some (h : LB k0 k1 m b d) : ∃ x, mB m b = some x := by
  obtain ⟨c, ps, st, g, wd, bs, hB, -⟩ := h
  exact ⟨_, hB.1⟩
/-- both are looked at -/
theorem agrees_LB {S : ivS} {Post : Int32 → ivS → Mu → Prop} (hO : OkB S.1) (hS : Sm S.1) (h : LB k0 k1 m b S.1) (hcB : 17600 ≤ cB) (hP : ∀ m', Fx (exK k0 k1 b) m m' → LB k0 k1 m' b S.1 → Post 1 S m') : wpL_agrees cB S m b Post := by
  obtain ⟨c, ps, st, g, wd, bs, hB, h1, h2, h3, h4⟩ := h
  refine agrees_s hO hS.toB hB (fun z => by rw [z, h2] at h1; omega) (fun p hp z => by have := (h3 p hp).2; rw [z, h2] at this; omega) hcB (fun m' bs' f B' => hP m' (f.mono (fun t a w => ?_)) ⟨c, ps, st, g, wd, bs', B', h1, h2, h3, h4⟩)
  rcases w with w | w
  · exact Or.inl w
  · exact Or.inr (Or.inl ⟨w.1, Or.inr (by rw [w.2]; exact h2)⟩)
/-- a copy -/
theorem copy_LB {Post : Nat → Mu → Prop} (hO : OkB d) (hS : Sm d) (h : LB k0 k1 m b d) (hcB : 20 ≤ cB) (hP : ∀ m' r k0' k1', Fx e0 m m' → frM m r → KX m k0 k1 k0' k1' → LB k0' k1' m' r d → Post r m') : wpX7_copy cB m b Post := by
  obtain ⟨c, ps, st, g, wd, bs, hB, h1, h2, h3, h4⟩ := h
  refine copy_s hO hS.1 hB hcB (fun mu r c' ps' st' g' bs' f hr hc hst hcs B' hg hi => ?_)
  refine hP mu r (fun a => if a = c' then 3 * r + 1 else if a = st' then 3 * r + 2 else k0 a) (fun a => cif (∃ p, p < dP d ∧ a = g' p) r (k1 a)) f hr ⟨fun a ha => ?_, fun a ha => ?_⟩ ⟨c', ps', st', g', wd, bs', B', if_pos rfl, ?_, fun p hp => ⟨cif_y ⟨p, hp, rfl⟩, ?_⟩, hi⟩
  · show (if a = c' then _ else if a = st' then _ else k0 a) = k0 a
    rw [if_neg (fun z => ha (by rw [z]; exact hc.1)), if_neg (fun z => ha (by rw [z]; exact hst.1))]
  · exact cif_n (fun ⟨p, hp, z⟩ => ha (by rw [z]; exact (hg p hp).2.2.1))
  · show (if st' = c' then _ else if st' = st' then _ else _) = _
    rw [if_neg (fun z => hcs z.symm), if_pos rfl]
  · obtain ⟨-, fw, j7, -⟩ := hB.2.2.2.1 p hp
    show (if wd p = c' then _ else if wd p = st' then _ else _) = _
    rw [if_neg (fun z => by rw [z, hc.1] at j7; cases j7), if_neg (fun z => by rw [z, hst.1] at j7; cases j7)]
    exact (h3 p hp).2
/-- a book of its own -/
theorem LB.own {m0 : Mu} {c ps st : Nat} {g wd : Nat → Nat} {bs : Option Nat × Option Nat × Int32} (hB : BK m b d c ps st g wd bs) (ho : OWN m0 b c st g wd d) : ∃ k0 k1, LB k0 k1 m b d := by
  obtain ⟨-, -, -, hcs, h5, h6⟩ := ho
  refine ⟨fun a => if a = c then 3 * b + 1 else if a = st then 3 * b + 2 else 0, fun _ => b, c, ps, st, g, wd, bs, hB, if_pos rfl, ?_, fun p hp => ⟨rfl, ?_⟩, h6⟩
  · show (if st = c then _ else if st = st then _ else _) = _
    rw [if_neg (fun z => hcs z.symm), if_pos rfl]
  · show (if wd p = c then _ else if wd p = st then _ else _) = _
    rw [if_neg (h5 p hp).2.2.1, if_neg (h5 p hp).2.2.2]
end STO
