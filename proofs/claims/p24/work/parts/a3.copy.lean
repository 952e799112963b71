/-! BOOKS: copied; paragraphs put in and taken out; rows without a number -/
theorem Fx.fr {m m' : Mu} {a : Nat} (h : Fx e0 m m') (f : frM m' a) : frM m a := by
  obtain ⟨f1, f2, f3, f4, f5, f6, f7, f8, f9⟩ := f
  have t : ∀ {α : Type} {x y : Option α}, (∀ z, x = some z → y = some z) → y = none → x = none := fun {α x y} h1 h2 => by
    cases x with
    | none => rfl
    | some z => rw [h1 z rfl] at h2; cases h2
  exact ⟨t (fun z hz => h.I (fun w => w) hz) f1, t (fun z hz => h.Q (fun w => w) hz) f2, t (fun z hz => h.P (fun w => w) hz) f3, t (fun z hz => h.B (fun w => w) hz) f4, t (fun z hz => h.L (fun w => w) hz) f5, t (fun z hz => h.R (fun w => w) hz) f6, t (fun z hz => h.T hz) f7, t (fun z hz => h.S hz) f8, t (fun z hz => h.G hz) f9⟩
section CPY
variable {m m' : Mu} {b : Nat} {d : Nat → Int32} {c ps st : Nat} {g wd : Nat → Nat} {bs : Option Nat × Option Nat × Int32} {cB : Nat}
theorem BK.f0 (hB : BK m b d c ps st g wd bs) (h : Fx e0 m m') : BK m' b d c ps st g wd bs := hB.fx h (fun w => w) (fun w => w) (fun w => w) (fun w => w) (fun p hp => ⟨fun w => w, fun w => w⟩)
theorem bI01 {x : Bool} : bI x = 0 ∨ bI x = 1 := by cases x; exact Or.inl rfl; exact Or.inr rfl
theorem copy_L {Post : Nat → Mu → Prop} {r c' ps' st' : Nat} {bs' : Option Nat × Option Nat × Int32} {xc xs : ceI} (hO : OkB d) (hB : BK m b d c ps st g wd bs) (hn : mQ m ps' = none) (hP : ∀ (mu : Mu) (g' : Nat → Nat) (q : Nat → Option Nat), Fx e0 m mu → mB mu r = some (d 0, d 1, d 2, d 3, some c', some ps', bs'.1, bs'.2.1, some st', bs'.2.2) → mQ mu ps' = some (2, dP d, q) → (∀ p, p < dP d → q p = some (g' p) ∧ frM m (g' p) ∧ mP mu (g' p) = some (d (11 + 34 * p), d (11 + 34 * p + 1), d (11 + 34 * p + 2), some (wd p))) → (∀ p p', p < dP d → p' < dP d → g' p = g' p' → p = p') → mI mu c' = some xc → mI mu st' = some xs → Post r mu) : ∀ x k : Nat, k + x = dP d → ∀ (u : Nat) (mu : Mu) (g' : Nat → Nat) (q : Nat → Option Nat), u + 2 * x ≤ cB → Fx e0 m mu → mB mu r = some (d 0, d 1, d 2, d 3, some c', some ps', bs'.1, bs'.2.1, some st', bs'.2.2) → mQ mu ps' = some (2, dP d, q) → (∀ p, p < k → q p = some (g' p) ∧ frM m (g' p) ∧ mP mu (g' p) = some (d (11 + 34 * p), d (11 + 34 * p + 1), d (11 + 34 * p + 2), some (wd p))) → (∀ p p', p < k → p' < k → g' p = g' p' → p = p') → mI mu c' = some xc → mI mu st' = some xs → wpX7_copy_L68 cB Post (x + 1) mu u b r (nI k)
  | x, k, hk, u, mu, g', q, hu, hf, hr, hq, hg, hi, hxc, hxs => by
    have h16 := hO.p16
    have hB' := hB.f0 hf
    obtain ⟨k1, -, ⟨qq, k3, k3'⟩, k4, -⟩ := hB'
    unfold wpX7_copy_L68
    refine ⟨_, k1, _, rfl, _, _, k3, fun z => ?_, fun z => ?_⟩
    · have e : k = dP d := by
        have := (nI_leI (by omega) (by omega)).mp z
        omega
      subst e
      exact ⟨by omega, hP mu g' q hf hr hq hg hi hxc hxs⟩
    · have hkd : k < dP d := by
        rcases Nat.lt_or_ge k (dP d) with w | w
        · exact w
        · exact absurd (nI_le w (by omega)) z
      cases x with
      | zero => exact absurd hkd (by omega)
      | succ x =>
        obtain ⟨k5, -⟩ := k4 k hkd
        refine ⟨_, hr, _, rfl, _, k1, _, rfl, _, _, k, k3, rfl, hkd, by omega, _, k3' k hkd, _, k5, 2, by omega, ?_⟩
        refine para_copy (y := (d (11 + 34 * k), d (11 + 34 * k + 1), d (11 + 34 * k + 2), none)) k5 (by show d (11 + 34 * k) = 0 ∨ d (11 + 34 * k) = 1; rw [hO.hd hkd]; exact bI01) (by show d (11 + 34 * k + 1) = 0 ∨ d (11 + 34 * k + 1) = 1; rw [hO.b hkd]; exact bI01) (Nat.le_refl _) (fun m2 a f2 ha pa => ?_)
        have ham := hf.fr ha
        have q2 := f2.Q (fun w => w) hq
        refine ⟨_, q, k, q2, rfl, hkd, by omega, _, pa, fun m3 e3 => ?_⟩
        rw [li1, nI_add]
        have f3 : Fx e0 m m3 := by
          rw [e3]
          have := hf.trans f2
          exact ⟨this.1, fun i y n hy => up_k (fun z => by subst z; rw [hn] at hy; cases hy) (this.2.1 i y n hy), this.2.2⟩
        refine copy_L hO hB hn hP x (k + 1) (by omega) (u + 2) m3 (fun i => if i = k then a else g' i) (va_up q k (some a)) (by omega) f3 (by rw [e3]; exact f2.B (fun w => w) hr) (by rw [e3]; exact up_s) (fun p hp => ?_) (fun p p' h1 h2 h3 => ?_) (by rw [e3]; exact f2.I (fun w => w) hxc) (by rw [e3]; exact f2.I (fun w => w) hxs)
        · have hP3 : mP m3 = mP m2 := by rw [e3]
          by_cases w : p = k
          · subst w
            rw [if_pos rfl, up_s, hP3]
            exact ⟨rfl, ham, pa⟩
          · rw [if_neg w, up_n w, hP3]
            obtain ⟨j1, j2, j3⟩ := hg p (by omega)
            exact ⟨j1, j2, f2.P (fun w => w) j3⟩
        · have fresh : ∀ i, i < k → g' i ≠ a := fun i hi' w => by
            have := (hg i hi').2.2
            rw [w, ha.2.2.1] at this
            cases this
          by_cases w1 : p = k
          · by_cases w2 : p' = k
            · omega
            · rw [if_pos w1, if_neg w2] at h3
              exact absurd h3.symm (fresh p' (by omega))
          · by_cases w2 : p' = k
            · rw [if_neg w1, if_pos w2] at h3
              exact absurd h3 (fresh p (by omega))
            · rw [if_neg w1, if_neg w2] at h3
              exact hi p p' (by omega) (by omega) h3
theorem copy_s {Post : Nat → Mu → Prop} (hO : OkB d) (h3 : dP d ≤ 3) (hB : BK m b d c ps st g wd bs) (hcB : 20 ≤ cB) (hP : ∀ mu r c' ps' st' g' bs', Fx e0 m mu → frM m r → frM m c' → frM m st' → c' ≠ st' → BK mu r d c' ps' st' g' wd bs' → (∀ p, p < dP d → frM m (g' p)) → (∀ p q, p < dP d → q < dP d → g' p = g' q → p = q) → Post r mu) : wpX7_copy cB m b Post := by
  have hB0 := hB
  obtain ⟨k1, ⟨fc, kc, kc'⟩, ⟨qq, k3, k3'⟩, k4, ft, kt⟩ := hB
  unfold wpX7_copy
  refine ⟨by omega, fun r hr mu2 e2 => ⟨9, by omega, book_init (x := (0, 0, 0, 0, none, none, none, none, none, 0)) (by rw [e2]; exact up_s) (Nat.le_refl _) (fun mu5 c0 ps0 st' f5 hc0 hps0 hst' hcs b5 c5 p5 s5 => ?_)⟩⟩
  have hne : b ≠ r := fun z => by rw [z, hr.2.2.2.1] at k1; cases k1
  have f2 : Fx (fun k a => k = 2 ∧ a = r) m mu2 := by rw [e2]; exact Fx.sB (Or.inr hr.2.2.2.1)
  have r2 : ∀ a, frM mu2 a → frM m a := fun a h => by rw [e2] at h; exact (fr_B h).1
  have B5 := (f2.trans f5).B (fun z => hne z.2) k1
  refine ⟨_, B5, _, b5, fun mu8 e8 => ⟨(d 0, d 1, d 2, d 3, some c, some ps, bs.1, bs.2.1, some st, bs.2.2), (by rw [e8]; exact up_k hne B5), (d 0, 10, 4, 1, some c0, some ps0, none, none, some st', 0), (by rw [e8]; exact up_s), fun mu11 e11 => ⟨(d 0, d 1, d 2, d 3, some c, some ps, bs.1, bs.2.1, some st, bs.2.2), (by rw [e11, e8]; exact up_k hne (up_k hne B5)), (d 0, d 1, 4, 1, some c0, some ps0, none, none, some st', 0), (by rw [e11]; exact up_s), fun mu14 e14 => ⟨(d 0, d 1, d 2, d 3, some c, some ps, bs.1, bs.2.1, some st, bs.2.2), (by rw [e14, e11, e8]; exact up_k hne (up_k hne (up_k hne B5))), (d 0, d 1, d 2, 1, some c0, some ps0, none, none, some st', 0), (by rw [e14]; exact up_s), fun mu17 e17 => ?_⟩⟩⟩⟩
  have f17 : Fx (fun k a => k = 2 ∧ a = r) mu5 mu17 := by
    rw [e17, e14, e11, e8]
    exact (Fx.sB (Or.inl ⟨rfl, rfl⟩)).trans ((Fx.sB (Or.inl ⟨rfl, rfl⟩)).trans ((Fx.sB (Or.inl ⟨rfl, rfl⟩)).trans (Fx.sB (Or.inl ⟨rfl, rfl⟩))))
  have F17 : Fx e0 m mu17 := (f2.trans (f5.trans f17)).less (fun k a w => Or.inr (by rw [w.2]; exact hr))
  have b17 : mB mu17 r = some (d 0, d 1, d 2, d 3, some c0, some ps0, none, none, some st', 0) := by rw [e17]; exact up_s
  have B17 := F17.B (fun w => w) k1
  have c17 := F17.I (fun w => w) kc
  refine ⟨_, B17, _, rfl, _, _, c17, by decide, by omega, fun c' hc' mu20 e20 => ⟨(d 0, d 1, d 2, d 3, some c0, some ps0, none, none, some st', 0), (by rw [e20]; exact b17), fun mu22 e22 => ?_⟩⟩
  have F20 : Fx e0 m mu20 := F17.trans (by rw [e20]; exact Fx.sI (Or.inr hc'.1))
  have F22 : Fx e0 m mu22 := (F17.mono (e' := fun k a => k = 2 ∧ a = r) (fun t a w => w.elim)).trans (Fx.trans (m' := mu20) (by rw [e20]; exact Fx.sI (Or.inr hc'.1)) (by rw [e22]; exact Fx.sB (Or.inl ⟨rfl, rfl⟩))) |>.less (fun k a w => Or.inr (by rw [w.2]; exact hr))
  have B22 := F22.B (fun w => w) k1
  have q22 := F22.Q (fun w => w) k3
  have b22 : mB mu22 r = some (d 0, d 1, d 2, d 3, some c', some ps0, none, none, some st', 0) := by rw [e22]; exact up_s
  have c22 : mI mu22 c' = some (6, fc) := by rw [e22, e20]; exact up_s
  have s17 : ∃ f, mI mu17 st' = some (99, f) := by
    obtain ⟨f, hf⟩ := s5
    exact ⟨f, f17.I (fun z => absurd z.1 (by decide)) hf⟩
  obtain ⟨fs, s17⟩ := s17
  have hcst : st' ≠ c' := fun z => by rw [z, hc'.1] at s17; cases s17
  have s22 : mI mu22 st' = some (99, fs) := by rw [e22, e20]; exact up_k hcst s17
  refine ⟨_, B22, _, rfl, _, _, q22, dP d, rfl, by omega, by omega, fun ps' hps' mu26 e26 => ⟨(d 0, d 1, d 2, d 3, some c', some ps0, none, none, some st', 0), (by rw [e26]; exact b22), fun mu28 e28 => ?_⟩⟩
  have hpsm : frM m ps' := F22.fr hps'
  have F28 : Fx e0 m mu28 := (F22.mono (e' := fun k a => k = 2 ∧ a = r) (fun t a w => w.elim)).trans (Fx.trans (m' := mu26) (by rw [e26]; exact Fx.sQ (Or.inr hps'.2.1)) (by rw [e28]; exact Fx.sB (Or.inl ⟨rfl, rfl⟩))) |>.less (fun k a w => Or.inr (by rw [w.2]; exact hr))
  have hpne : ps ≠ ps' := fun z => by rw [z, hpsm.2.1] at k3; cases k3
  have b28 : mB mu28 r = some (d 0, d 1, d 2, d 3, some c', some ps', none, none, some st', 0) := by rw [e28]; exact up_s
  have c28 : mI mu28 c' = some (6, fc) := by rw [e28, e26]; exact c22
  have s28 : mI mu28 st' = some (99, fs) := by rw [e28, e26]; exact s22
  refine ⟨dP d + 1, ?_⟩
  have hcm : frM m c' := F17.fr hc'
  refine copy_L (r := r) (c' := c') (ps' := ps') (st' := st') (bs' := (none, none, 0)) (xc := (6, fc)) (xs := (99, fs)) hO hB0 hpsm.2.1 (fun mu g' q hf hr2 hq hg hi hxc hxs => ?_) (dP d) 0 (Nat.zero_add _) _ mu28 (fun _ => 0) (fun _ => none) (by omega) F28 b28 (by rw [e28, e26]; exact up_s) (fun p hp => absurd hp (Nat.not_lt_zero _)) (fun p p' hp => absurd hp (Nat.not_lt_zero _)) c28 s28
  refine hP mu r c' ps' st' g' (none, none, 0) hf hr hcm (r2 _ hst') hcst.symm ⟨hr2, ⟨fc, hxc, kc'⟩, ⟨q, hq, fun p hp => (hg p hp).1⟩, fun p hp => ⟨(hg p hp).2.2, ?_⟩, ⟨fs, hxs⟩⟩ (fun p hp => (hg p hp).2.1) hi
  obtain ⟨-, f, h6, h7⟩ := k4 p hp
  exact ⟨f, hf.I (fun w => w) h6, h7⟩
end CPY
