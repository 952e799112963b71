/-! ONE STEP OF THE LAW'S LOOP: its end -/
def INV (S : ivS) (m : Mu) (b v5 v7 done : Nat) : Prop := OkB S.1 ∧ Sm S.1 ∧ (S.2.2.1 ≤ 8 ∧ S.2.2.2.2.1 = 0) ∧ (done ≤ S.2.2.1 ∨ 8 ≤ S.2.2.1) ∧ (∃ x, mR m v5 = some x) ∧ ∃ k0 k1, LB k0 k1 m b S.1 ∧ HIS k0 k1 m b v7 S done
def PRE (k0 k1 : Nat → Nat) (S : ivS) (m : Mu) (b v10 v5 v7 done : Nat) : Prop := OkB S.1 ∧ Sm S.1 ∧ (S.2.2.1 ≤ 8 ∧ S.2.2.2.2.1 = 0) ∧ (done ≤ S.2.2.1 ∨ 8 ≤ S.2.2.1) ∧ (∃ x, mR m v5 = some x) ∧ LB k0 k1 m b S.1 ∧ HIS k0 k1 m b v7 S done ∧ LB k0 k1 m v10 S.1 ∧ v10 ≠ b ∧ ∀ f, mQ m v7 = some (3, 9, f) → ∀ j, j < 9 → f j ≠ some v10
section STP
variable {k0 k1 k0' k1' : Nat → Nat} {S : ivS} {m m' : Mu} {b v10 v5 v7 done k cB u : Nat} {d' : Nat → Int32} {Post : Prop} {K : ivS → Mu → Nat → Int32 → Nat → Nat → Nat → Int32 → Int32 → Prop}
theorem exK_col (kx : KX m k0 k1 k0' k1') (f : Fx (exK k0 k1 b) m m') : Fx (exK k0' k1' b) m m' := by
  refine ⟨fun a x n hy => f.1 a x (fun w => n ?_) hy, fun a x n hy => f.2.1 a x (fun w => ?_) hy, fun a x n hy => f.2.2.1 a x (fun w => n ?_) hy, fun a x n hy => f.2.2.2.1 a x (fun w => n ?_) hy, fun a x n hy => f.2.2.2.2.1 a x (fun w => ?_) hy, fun a x n hy => f.2.2.2.2.2.1 a x (fun w => ?_) hy, f.2.2.2.2.2.2⟩
  · rcases w with w | w | w
    · exact absurd w.1 (by decide)
    · exact Or.inr (Or.inl ⟨rfl, by rw [kx.1 a (ne_some hy)]; exact w.2⟩)
    · exact absurd w.1 (by decide)
  · rcases w with w | w | w <;> exact absurd w.1 (by decide)
  · rcases w with w | w | w
    · exact absurd w.1 (by decide)
    · exact absurd w.1 (by decide)
    · exact Or.inr (Or.inr ⟨rfl, by rw [kx.2 a (ne_some hy)]; exact w.2⟩)
  · rcases w with w | w | w
    · exact Or.inl w
    · exact absurd w.1 (by decide)
    · exact absurd w.1 (by decide)
  · rcases w with w | w | w <;> exact absurd w.1 (by decide)
  · rcases w with w | w | w <;> exact absurd w.1 (by decide)
theorem exK_R {x : ceR} (f : Fx (exK k0 k1 b) m m') (h : mR m v5 = some x) : mR m' v5 = some x := f.R (fun w => by rcases w with w | w | w <;> exact absurd w.1 (by decide)) h
theorem b1217_s (h : INV S m b v5 v7 done) (hu : u + 17600 ≤ cB) (hK : ∀ m', INV S m' b v5 v7 done → K S m' (u + 17600) 1 v5 b v7 (nI done) (nI (k + 1))) : wpL_law_b1217 cB Post K S m u 1 v5 b v7 (nI done) (nI k) := by
  obtain ⟨hO, hS, hn, hd, ⟨x, hx⟩, k0, k1, hL, hH⟩ := h
  unfold wpL_law_b1217
  refine ⟨fun z => absurd z (by decide), fun _ => ⟨17600, hu, agrees_LB hO hS hL (Nat.le_refl _) (fun m' f hL' => ⟨fun z => absurd z (by decide), fun _ => ?_⟩)⟩⟩
  unfold wpL_law_b1235
  rw [li1, nI_add]
  exact hK m' ⟨hO, hS, hn, hd, ⟨x, exK_R f hx⟩, k0, k1, hL', hH.fx f⟩
theorem PRE.draw (h : PRE k0 k1 S m b v10 v5 v7 done) (x : Int32) : PRE k0 k1 S (sR m v5 x) b v10 v5 v7 done := by
  obtain ⟨hO, hS, hn, hd, -, hL, hH, hL10, hne, hf⟩ := h
  have F : Fx (fun t a => t = 4 ∧ a = v5) m (sR m v5 x) := Fx.sR (Or.inl ⟨rfl, rfl⟩)
  have lb : ∀ {a : Nat} {d : Nat → Int32}, LB k0 k1 m a d → LB k0 k1 (sR m v5 x) a d := fun hh => hh.fx F (fun w => absurd w.1 (by decide)) (fun a w => absurd w.1 (by decide)) (fun a w => absurd w.1 (by decide)) (fun a w => absurd w.1 (by decide))
  exact ⟨hO, hS, hn, hd, ⟨x, up_s⟩, lb hL, hH.rn F, lb hL10, hne, hf⟩
theorem PRE.below (h : PRE k0 k1 S m b v10 v5 v7 done) {n : Nat} (hn : 0 < n) (hn2 : n < 2 ^ 31) {Po : Int32 → Mu → Prop} (hP : ∀ i m', i < n → PRE k0 k1 S m' b v10 v5 v7 done → mB m' = mB m → mQ m' = mQ m → mP m' = mP m → mI m' = mI m → Po (nI i) m') : wpX10_below m v5 (nI n) Po := by
  obtain ⟨x, hx⟩ := h.2.2.2.2.1
  exact below_s hx hn hn2 (fun i x' hi => hP i _ hi (h.draw x') rfl rfl rfl rfl)
/-- nothing was changed -/
theorem PRE.stay (h : PRE k0 k1 S m b v10 v5 v7 done) (hu : u + 17600 ≤ cB) (hK : ∀ m', INV S m' b v5 v7 done → K S m' (u + 17600) 1 v5 b v7 (nI done) (nI (k + 1))) : wpL_law_b1176 cB Post K S m u 1 v5 b v7 (nI done) (nI k) v10 0 := by
  obtain ⟨hO, hS, hn, hd, hx, hL, hH, -⟩ := h
  unfold wpL_law_b1176
  exact ⟨fun _ => b1217_s ⟨hO, hS, hn, hd, hx, k0, k1, hL, hH⟩ hu hK, fun z => absurd rfl z⟩
/-- the book was changed -/
theorem PRE.chg (h : PRE k0 k1 S m b v10 v5 v7 done) (f : Fx (exK k0 k1 b) m m') (kx : KX m k0 k1 k0' k1') (hL' : LB k0' k1' m' b d') (hO' : OkB d') (hS' : Sm d') (hu : u + 17600 ≤ cB) (hK : ∀ m', INV (ivE S d') m' b v5 v7 (done + 1) → K (ivE S d') m' (u + 17600) 1 v5 b v7 (nI (done + 1)) (nI (k + 1))) : wpL_law_b1176 cB Post K (ivE S d') m' u 1 v5 b v7 (nI done) (nI k) v10 1 := by
  obtain ⟨hO, hS, hn, hd, ⟨x, hx⟩, hL, hH, hL10, hne, hf⟩ := h
  have f' := exK_col kx f
  have n5 : ¬ exK k0' k1' b 5 v7 := fun w => by
    rcases w with w | w | w <;> exact absurd w.1 (by decide)
  unfold wpL_law_b1176
  refine ⟨fun z => absurd z (by decide), fun _ => ?_⟩
  refine push_s (k0 := k0') (k1 := k1') (S := S) (S' := ivE S d') ((hH.col kx).fx f') hn.1 hd ((hL10.col kx).other f' hne) hO hS hne (fun q hq j hj => ?_) rfl rfl (fun m2 f2 hH2 => b1217_s ⟨hO', hS', ?_, ?_, ⟨x, f2.R (fun w => absurd w.1 (by decide)) (exK_R f' hx)⟩, k0', k1', ?_, hH2⟩ hu hK)
  · obtain ⟨q0, h1, -⟩ := hH
    have := f'.Q n5 h1
    rw [hq] at this
    cases this
    exact hf _ h1 j hj
  · refine ⟨?_, hn.2⟩
    have := hn.1
    show pushN S.2.2.1 ≤ 8
    unfold pushN
    split <;> omega
  · have := hn.1
    show done + 1 ≤ pushN S.2.2.1 ∨ 8 ≤ pushN S.2.2.1
    unfold pushN
    split <;> omega
  · show LB k0' k1' m2 b d'
    obtain ⟨c, ps, st, g, wd, bs, hB, j1, j2, j3, j4⟩ := hL'
    refine ⟨c, ps, st, g, wd, bs, hB.fx f2 (fun w => absurd w.1 (by decide)) (fun w => absurd w.1 (by decide)) (fun w => absurd w.1 (by decide)) (fun w => ?_) (fun p hp => ⟨fun w => absurd w.1 (by decide), fun w => absurd w.1 (by decide)⟩), j1, j2, j3, j4⟩
    obtain ⟨-, -, ⟨qq, k3, -⟩, -⟩ := hB
    obtain ⟨q0, h1, -⟩ := (hH.col kx).fx f'
    rw [w.2, h1] at k3
    injection k3 with k3
    injection k3 with k3
    exact absurd k3 (by decide)
theorem KX.rf : KX m k0 k1 k0 k1 := ⟨fun _ _ => rfl, fun _ _ => rfl⟩
end STP
