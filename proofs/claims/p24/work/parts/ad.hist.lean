/-! THE BOOKS BEFORE -/
def HIS (k0 k1 : Nat → Nat) (m : Mu) (b v7 : Nat) (S : ivS) (done : Nat) : Prop := ∃ f, mQ m v7 = some (3, 9, f) ∧ (∀ j a, j < 9 → f j = some a → a ≠ b ∧ ∃ x, mB m a = some x) ∧ (∀ j, j < done → j < 8 → j < S.2.2.1 ∧ ∃ a, f j = some a ∧ LB k0 k1 m a (S.2.1 (S.2.2.1 - 1 - j)) ∧ OkB (S.2.1 (S.2.2.1 - 1 - j)) ∧ Sm (S.2.1 (S.2.2.1 - 1 - j))) ∧ ∀ i j a, i < done → j < done → i < 8 → j < 8 → f i = some a → f j = some a → i = j
section HIS
variable {k0 k1 k0' k1' : Nat → Nat} {m m' : Mu} {b v7 : Nat} {S : ivS} {done : Nat} {cB u : Nat}
theorem HIS.fx (h : HIS k0 k1 m b v7 S done) (f : Fx (exK k0 k1 b) m m') : HIS k0 k1 m' b v7 S done := by
  obtain ⟨q, h1, h2, h3, h4⟩ := h
  have n5 : ¬ exK k0 k1 b 5 v7 := fun w => by
    rcases w with w | w | w <;> exact absurd w.1 (by decide)
  refine ⟨q, f.Q n5 h1, fun j a hj ha => ?_, fun j hj h8 => ?_, h4⟩
  · obtain ⟨g1, x, g2⟩ := h2 j a hj ha
    refine ⟨g1, x, f.B (fun w => ?_) g2⟩
    rcases w with w | w | w
    · exact g1 w.2
    · exact absurd w.1 (by decide)
    · exact absurd w.1 (by decide)
  · obtain ⟨g1, a, g2, g3, g4, g5⟩ := h3 j hj h8
    exact ⟨g1, a, g2, g3.other f (h2 j a (by omega) g2).1, g4, g5⟩
theorem HIS.f0 (h : HIS k0 k1 m b v7 S done) (f : Fx e0 m m') : HIS k0 k1 m' b v7 S done := by
  obtain ⟨q, h1, h2, h3, h4⟩ := h
  refine ⟨q, f.Q (fun w => w) h1, fun j a hj ha => ?_, fun j hj h8 => ?_, h4⟩
  · obtain ⟨g1, x, g2⟩ := h2 j a hj ha
    exact ⟨g1, x, f.B (fun w => w) g2⟩
  · obtain ⟨g1, a, g2, g3, g4, g5⟩ := h3 j hj h8
    exact ⟨g1, a, g2, g3.f0 f, g4, g5⟩
theorem HIS.rn {rn : Nat} (h : HIS k0 k1 m b v7 S done) (f : Fx (fun t a => t = 4 ∧ a = rn) m m') : HIS k0 k1 m' b v7 S done := by
  obtain ⟨q, h1, h2, h3, h4⟩ := h
  refine ⟨q, f.Q (fun w => absurd w.1 (by decide)) h1, fun j a hj ha => ?_, fun j hj h8 => ?_, h4⟩
  · obtain ⟨g1, x, g2⟩ := h2 j a hj ha
    exact ⟨g1, x, f.B (fun w => absurd w.1 (by decide)) g2⟩
  · obtain ⟨g1, a, g2, g3, g4, g5⟩ := h3 j hj h8
    exact ⟨g1, a, g2, g3.fx f (fun w => absurd w.1 (by decide)) (fun a w => absurd w.1 (by decide)) (fun a w => absurd w.1 (by decide)) (fun a w => absurd w.1 (by decide)), g4, g5⟩
theorem HIS.col (h : HIS k0 k1 m b v7 S done) (k : KX m k0 k1 k0' k1') : HIS k0' k1' m b v7 S done := by
  obtain ⟨q, h1, h2, h3, h4⟩ := h
  exact ⟨q, h1, h2, fun j hj h8 => by
    obtain ⟨g1, a, g2, g3, g4, g5⟩ := h3 j hj h8
    exact ⟨g1, a, g2, g3.col k, g4, g5⟩, h4⟩
theorem HIS.st {S' : ivS} (h : HIS k0 k1 m b v7 S done) (h1 : S'.2.1 = S.2.1) (h2 : S'.2.2.1 = S.2.2.1) : HIS k0 k1 m b v7 S' done := by
  unfold HIS
  rw [h1, h2]
  exact h
/-- they move up -/
theorem shift_L {Post : Prop} {K : ivS → Mu → Nat → Int32 → Nat → Nat → Nat → Int32 → Int32 → Prop} {v1 v8 v9 : Int32} {v5 v6 v10 : Nat} {f0 : Nat → Option Nat} {x : ceB} {M0 : Mu} (hb : mB M0 v10 = some x) (hf : ∀ j a, j < 9 → f0 j = some a → ∃ x, mB M0 a = some x) (hP : ∀ f, f 0 = some v10 → (∀ j, j < 8 → f (j + 1) = f0 j) → wpL_law_b1217 cB Post K S (sQ M0 v7 (3, 9, f)) u v1 v5 v6 v7 (v8 + 1) v9) : ∀ k : Nat, k ≤ 8 → ∀ f : Nat → Option Nat, (∀ j, j ≤ k → f j = f0 j) → (∀ j, k ≤ j → j < 8 → f (j + 1) = f0 j) → wpL_law_L1185 cB Post K (k + 1) S (sQ M0 v7 (3, 9, f)) u v1 v5 v6 v7 v8 v9 v10 (nI k)
  | k, hk, f, h1, h2 => by
    have q1 : ∀ g, mQ (sQ M0 v7 (3, 9, g)) v7 = some (3, 9, g) := fun g => up_s
    have qq : ∀ g g', sQ (sQ M0 v7 (3, 9, g)) v7 (3, 9, g') = sQ M0 v7 (3, 9, g') := fun g g' => by
      show (M0.1, va_up (va_up M0.2.1 v7 _) v7 _, _) = _
      rw [up_up]
    unfold wpL_law_L1185
    refine ⟨fun z => ⟨9, f, 0, q1 f, rfl, by decide, by decide, x, hb, fun m2 e2 => ?_⟩, fun z => ?_⟩
    · have e : k = 0 := by
        have := (nI_leI (by omega) (by decide)).mp (show nI k ≤ nI 0 from z)
        omega
      subst e
      rw [e2, qq]
      refine hP _ up_s (fun j hj => ?_)
      rw [up_n (by omega)]
      exact h2 j (Nat.zero_le _) hj
    · cases k with
      | zero => exact absurd (show nI 0 ≤ nI 0 by decide) z
      | succ k =>
        have em : nI (k + 1) + (-1 : Int32) = nI k := by
          rw [show ((-1 : Int32)) = - 1 from rfl, ← Int32.sub_eq_add_neg, li1, sm_sub (by omega), Nat.add_sub_cancel]
        have step : ∀ v, f k = v → wpL_law_L1185 cB Post K (k + 1) S (sQ M0 v7 (3, 9, va_up f (k + 1) v)) u v1 v5 v6 v7 v8 v9 v10 (nI k) := fun v hv => by
          refine shift_L hb hf hP k (by omega) (va_up f (k + 1) v) (fun j hj => ?_) (fun j hj h8 => ?_)
          · rw [up_n (by omega)]
            exact h1 j (by omega)
          · by_cases y : j = k
            · subst y
              rw [up_s, ← hv]
              exact h1 j (by omega)
            · rw [up_n (by omega)]
              exact h2 j (by omega) h8
        refine ⟨9, f, k, q1 f, by rw [li1, sm_sub (by omega), Nat.add_sub_cancel], by omega, by decide, fun w => ⟨9, f, k + 1, q1 f, rfl, by omega, by decide, fun m2 e2 => ?_⟩, fun a w => ?_⟩
        · rw [e2, qq, em]
          exact step none w
        · obtain ⟨y, hy⟩ := hf k a (by omega) ((h1 k (by omega)).symm.trans w)
          refine ⟨9, f, k + 1, q1 f, rfl, by omega, by decide, y, hy, fun m2 e2 => ?_⟩
          rw [e2, qq, em]
          exact step (some a) w
theorem push_idx {hist : Nat → Nat → Int32} {n j : Nat} {d : Nat → Int32} (hn : n ≤ 8) : pushH hist n d (pushN n - 1 - 0) = d ∧ (j < n → j + 1 < 8 → j + 1 < pushN n ∧ pushH hist n d (pushN n - 1 - (j + 1)) = hist (n - 1 - j)) := by
  unfold pushH pushN
  by_cases h : n = 8
  · rw [if_pos h, if_pos h, h]
    refine ⟨rfl, fun h1 h2 => ⟨by omega, ?_⟩⟩
    show (if 8 - 1 - (j + 1) = 7 then d else hist (8 - 1 - (j + 1) + 1)) = _
    rw [if_neg (by omega), show 8 - 1 - (j + 1) + 1 = 8 - 1 - j by omega]
  · rw [if_neg h, if_neg h]
    refine ⟨?_, fun h1 h2 => ⟨by omega, ?_⟩⟩
    · show (if n + 1 - 1 - 0 = n then d else _) = d
      rw [if_pos (by omega)]
    · show (if n + 1 - 1 - (j + 1) = n then d else hist (n + 1 - 1 - (j + 1))) = _
      rw [if_neg (by omega), show n + 1 - 1 - (j + 1) = n - 1 - j by omega]
/-- one more book before -/
theorem push_s {Post : Prop} {K : ivS → Mu → Nat → Int32 → Nat → Nat → Nat → Int32 → Int32 → Prop} {v1 v9 : Int32} {v5 v10 : Nat} {S' : ivS} (h : HIS k0 k1 m b v7 S done) (hn : S.2.2.1 ≤ 8) (hd : done ≤ S.2.2.1 ∨ 8 ≤ S.2.2.1) (hL : LB k0 k1 m v10 S.1) (hO : OkB S.1) (hS : Sm S.1) (hb : v10 ≠ b) (hf : ∀ f, mQ m v7 = some (3, 9, f) → ∀ j, j < 9 → f j ≠ some v10) (e1 : S'.2.1 = pushH S.2.1 S.2.2.1 S.1) (e2 : S'.2.2.1 = pushN S.2.2.1) (hP : ∀ m', Fx (fun t a => t = 5 ∧ a = v7) m m' → HIS k0 k1 m' b v7 S' (done + 1) → wpL_law_b1217 cB Post K S' m' u v1 v5 b v7 (nI (done + 1)) v9) : ∃ m_, wpL_law_L1185 cB Post K m_ S' m u v1 v5 b v7 (nI done) v9 v10 8 := by
  obtain ⟨f, h1, h2, h3, h4⟩ := h
  obtain ⟨x, hx⟩ := hL.some
  have hne := hf f h1
  refine ⟨9, ?_⟩
  have em : m = sQ m v7 (3, 9, f) := by
    have e : va_up m.2.1 v7 (some (3, 9, f)) = m.2.1 := by
      funext j
      by_cases y : j = v7
      · subst y; rw [up_s]; exact h1.symm
      · rw [up_n y]
    show m = (m.1, va_up m.2.1 v7 (some (3, 9, f)), m.2.2)
    rw [e]
  have key := shift_L (cB := cB) (u := u) (S := S') (v7 := v7) (Post := Post) (K := K) (v1 := v1) (v8 := nI done) (v9 := v9) (v5 := v5) (v6 := b) (M0 := m) (f0 := f) hx (fun j a hj ha => (h2 j a hj ha).2) (fun f' g1 g2 => ?_) 8 (Nat.le_refl _) f (fun _ _ => rfl) (fun j h1 h2 => absurd h2 (by omega))
  · rw [← em] at key
    exact key
  · rw [li1, nI_add]
    have F : Fx (fun t a => t = 5 ∧ a = v7) m (sQ m v7 (3, 9, f')) := Fx.sQ (Or.inl ⟨rfl, rfl⟩)
    have lb : ∀ {a : Nat} {d : Nat → Int32}, LB k0 k1 m a d → LB k0 k1 (sQ m v7 (3, 9, f')) a d := fun {a d} hh => by
      obtain ⟨c, ps, st, g, wd, bs, hB, j1, j2, j3, j4⟩ := hh
      refine ⟨c, ps, st, g, wd, bs, hB.fx F (fun w => absurd w.1 (by decide)) (fun w => absurd w.1 (by decide)) (fun w => absurd w.1 (by decide)) (fun w => ?_) (fun p hp => ⟨fun w => absurd w.1 (by decide), fun w => absurd w.1 (by decide)⟩), j1, j2, j3, j4⟩
      obtain ⟨-, -, ⟨qq, k3, -⟩, -⟩ := hB
      rw [w.2, h1] at k3
      injection k3 with k3
      injection k3 with k3
      exact absurd k3 (by decide)
    have sh : ∀ j a, j < 9 → f' j = some a → (j = 0 ∧ a = v10) ∨ (∃ i, j = i + 1 ∧ f i = some a) := fun j a hj ha => by
      cases j with
      | zero => rw [g1] at ha; cases ha; exact Or.inl ⟨rfl, rfl⟩
      | succ i => rw [g2 i (by omega)] at ha; exact Or.inr ⟨i, rfl, ha⟩
    refine hP _ F ⟨f', up_s, fun j a hj ha => ?_, fun j hj h8 => ?_, fun i j a hi hj hi8 hj8 ha ha' => ?_⟩
    · rcases sh j a hj ha with ⟨-, e⟩ | ⟨i, e, hi⟩
      · rw [e]; exact ⟨hb, x, hx⟩
      · exact h2 i a (by omega) hi
    · rw [e1, e2]
      cases j with
      | zero =>
        have p1 := (push_idx (hist := S.2.1) (j := 0) (d := S.1) hn).1
        rw [p1]
        exact ⟨by unfold pushN; split <;> omega, v10, g1, lb hL, hO, hS⟩
      | succ j =>
        obtain ⟨i1, a, i2, i3, i4, i5⟩ := h3 j (by omega) (by omega)
        obtain ⟨p1, p2⟩ := (push_idx (hist := S.2.1) (j := j) (d := S.1) hn).2 i1 h8
        rw [p2]
        exact ⟨p1, a, by rw [g2 j (by omega)]; exact i2, lb i3, i4, i5⟩
    · rcases sh i a (by omega) ha with ⟨e, ea⟩ | ⟨i', e, hi'⟩
      · rcases sh j a (by omega) ha' with ⟨e', ea'⟩ | ⟨j', e', hj'⟩
        · omega
        · rw [ea] at hj'
          exact absurd hj' (hne j' (by omega))
      · rcases sh j a (by omega) ha' with ⟨e', ea'⟩ | ⟨j', e', hj'⟩
        · rw [ea'] at hi'
          exact absurd hi' (hne i' (by omega))
        · have := h4 i' j' a (by omega) (by omega) (by omega) (by omega) hi' hj'
          omega
end HIS
