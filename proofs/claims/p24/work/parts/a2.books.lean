/-! BOOKS: made, copied, kept apart -/
section FRE
variable {m : Mu} {a b : Nat}
theorem fr_I {x : ceI} (h : frM (sI m b x) a) : frM m a ∧ a ≠ b := by
  have hne : a ≠ b := fun z => by
    have h1 : va_up m.1 b (some x) a = none := h.1
    rw [z, up_s] at h1
    cases h1
  have h1 : va_up m.1 b (some x) a = none := h.1
  rw [up_n hne] at h1
  exact ⟨⟨h1, h.2⟩, hne⟩
theorem fr_Q {x : ceQ} (h : frM (sQ m b x) a) : frM m a ∧ a ≠ b := by
  have h1 : va_up m.2.1 b (some x) a = none := h.2.1
  have hne : a ≠ b := fun z => by
    rw [z, up_s] at h1
    cases h1
  rw [up_n hne] at h1
  exact ⟨⟨h.1, h1, h.2.2⟩, hne⟩
theorem fr_P {x : ceP} (h : frM (sP m b x) a) : frM m a ∧ a ≠ b := by
  have h1 : va_up m.2.2.1 b (some x) a = none := h.2.2.1
  have hne : a ≠ b := fun z => by
    rw [z, up_s] at h1
    cases h1
  rw [up_n hne] at h1
  exact ⟨⟨h.1, h.2.1, h1, h.2.2.2⟩, hne⟩
theorem fr_B {x : ceB} (h : frM (sB m b x) a) : frM m a ∧ a ≠ b := by
  have h1 : va_up m.2.2.2.1 b (some x) a = none := h.2.2.2.1
  have hne : a ≠ b := fun z => by
    rw [z, up_s] at h1
    cases h1
  rw [up_n hne] at h1
  exact ⟨⟨h.1, h.2.1, h.2.2.1, h1, h.2.2.2.2⟩, hne⟩
end FRE
def usu : Nat → Int32 := fun k => if k = 0 then 1 else if k = 1 then 1 else if k = 2 then 2 else if k = 3 then 20 else if k = 4 then 10 else 30
section BKN
variable {m m' : Mu} {v0 : Nat} {cB : Nat}
theorem book_init {Post : Mu → Prop} {x : ceB} (hx : mB m v0 = some x) (hcB : 9 ≤ cB) (hP : ∀ m' c ps st, Fx (fun k a => k = 2 ∧ a = v0) m m' → frM m c → frM m ps → frM m st → c ≠ st → mB m' v0 = some (40, 10, 4, 1, some c, some ps, x.2.2.2.2.2.2.1, x.2.2.2.2.2.2.2.1, some st, x.2.2.2.2.2.2.2.2.2) → (∃ f, mI m' c = some (6, f) ∧ ∀ k, k < 6 → f k = usu k) → (∃ q, mQ m' ps = some (2, 0, q)) → (∃ f, mI m' st = some (99, f)) → Post m') : wpX7_init cB m v0 Post := by
  unfold wpX7_init
  refine ⟨_, hx, fun mu2 e2 => ?_⟩
  subst e2
  refine ⟨_, up_s, fun mu4 e4 => ?_⟩
  subst e4
  refine ⟨_, up_s, fun mu6 e6 => ?_⟩
  subst e6
  refine ⟨_, up_s, fun mu8 e8 => ?_⟩
  have f8 : Fx (fun k a => k = 2 ∧ a = v0) m mu8 := by
    rw [e8]
    exact (Fx.sB (Or.inl ⟨rfl, rfl⟩)).trans ((Fx.sB (Or.inl ⟨rfl, rfl⟩)).trans ((Fx.sB (Or.inl ⟨rfl, rfl⟩)).trans (Fx.sB (Or.inl ⟨rfl, rfl⟩))))
  have b8 : mB mu8 v0 = some (40, 10, 4, 1, x.2.2.2.2) := by rw [e8]; exact up_s
  have r8 : ∀ a, frM mu8 a → frM m a := fun a h => by
    rw [e8] at h
    exact (fr_B (fr_B (fr_B (fr_B h).1).1).1).1
  clear e8
  refine ⟨6, rfl, by decide, by omega, fun c hc mu10 e10 => ?_⟩
  have c10 : mI mu10 c = some (6, fun _ => 0) := by rw [e10]; exact up_s
  have f10 : Fx (fun k a => k = 2 ∧ a = v0) mu8 mu10 := by rw [e10]; exact Fx.sI (Or.inr hc.1)
  have b10 : mB mu10 v0 = some (40, 10, 4, 1, x.2.2.2.2) := by rw [e10]; exact b8
  have r10 : ∀ a, frM mu10 a → frM mu8 a ∧ a ≠ c := fun a h => by rw [e10] at h; exact fr_I h
  have put : ∀ (mk : Mu) (f : Nat → Int32) (k : Nat) (y : Int32), mI mk c = some (6, f) → Fx (fun k a => k = 2 ∧ a = v0) mu8 mk → mB mk v0 = some (40, 10, 4, 1, x.2.2.2.2) → (∀ a, frM mk a → frM mu8 a ∧ a ≠ c) → ∀ mj, mj = sI mk c (6, upd f k y) → mI mj c = some (6, upd f k y) ∧ Fx (fun k a => k = 2 ∧ a = v0) mu8 mj ∧ mB mj v0 = some (40, 10, 4, 1, x.2.2.2.2) ∧ (∀ a, frM mj a → frM mu8 a ∧ a ≠ c) := fun mk f k y h1 h2 h3 h4 mj ej => by
    refine ⟨by rw [ej]; exact up_s, ?_, by rw [ej]; exact h3, fun a h => ?_⟩
    · rw [ej]
      exact ⟨fun k y n hy => up_k (fun z => by subst z; rw [hc.1] at hy; cases hy) (h2.1 k y n hy), h2.2⟩
    · rw [ej] at h
      exact h4 a (fr_I h).1
  refine ⟨6, _, 0, c10, rfl, by decide, by decide, fun mu12 e12 => ?_⟩
  obtain ⟨c12, f12, b12, r12⟩ := put _ _ _ _ c10 f10 b10 r10 mu12 e12
  refine ⟨6, _, 1, c12, rfl, by decide, by decide, fun mu14 e14 => ?_⟩
  obtain ⟨c14, f14, b14, r14⟩ := put _ _ _ _ c12 f12 b12 r12 mu14 e14
  refine ⟨6, _, 2, c14, rfl, by decide, by decide, fun mu16 e16 => ?_⟩
  obtain ⟨c16, f16, b16, r16⟩ := put _ _ _ _ c14 f14 b14 r14 mu16 e16
  refine ⟨6, _, 3, c16, rfl, by decide, by decide, fun mu18 e18 => ?_⟩
  obtain ⟨c18, f18, b18, r18⟩ := put _ _ _ _ c16 f16 b16 r16 mu18 e18
  refine ⟨6, _, 4, c18, rfl, by decide, by decide, fun mu20 e20 => ?_⟩
  obtain ⟨c20, f20, b20, r20⟩ := put _ _ _ _ c18 f18 b18 r18 mu20 e20
  refine ⟨6, _, 5, c20, rfl, by decide, by decide, fun mu22 e22 => ?_⟩
  obtain ⟨c22, f22, b22, r22⟩ := put _ _ _ _ c20 f20 b20 r20 mu22 e22
  refine ⟨_, b22, fun mu24 e24 => ?_⟩
  have b24 : mB mu24 v0 = some (40, 10, 4, 1, some c, x.2.2.2.2.2) := by rw [e24]; exact up_s
  refine ⟨0, rfl, by decide, by omega, fun ps hps mu26 e26 => ?_⟩
  have r24 : ∀ a, frM mu24 a → frM mu8 a ∧ a ≠ c := fun a h => by rw [e24] at h; exact r22 a (fr_B h).1
  refine ⟨_, (by rw [e26]; exact b24), fun mu28 e28 => ?_⟩
  have r26 : ∀ a, frM mu28 a → frM mu8 a ∧ a ≠ c := fun a h => by
    rw [e28, e26] at h
    exact r24 a (fr_Q (fr_B h).1).1
  refine ⟨99, rfl, by decide, by omega, fun st hst mu30 e30 => ?_⟩
  have b28 : mB mu28 v0 = some (40, 10, 4, 1, some c, some ps, x.2.2.2.2.2.2) := by rw [e28]; exact up_s
  refine ⟨_, (by rw [e30]; exact b28), fun mu32 e32 => ⟨by omega, ?_⟩⟩
  have nst := (r26 st hst).2
  have nps := (r24 ps hps).2
  have c32 : mI mu32 c = some (6, upd (upd (upd (upd (upd (upd (fun _ => 0) 0 1) 1 1) 2 2) 3 20) 4 10) 5 30) := by
    rw [e32, e30]
    refine up_k nst.symm ?_
    show mI mu28 c = _
    rw [e28, e26]
    show mI mu24 c = _
    rw [e24]
    exact c22
  refine hP mu32 c ps st ?_ (r8 c hc) (r8 ps (r24 ps hps).1) (r8 st (r26 st hst).1) nst.symm ?_ ⟨_, c32, fun k hk => ?_⟩ ⟨fun _ => none, ?_⟩ ⟨fun _ => 0, ?_⟩
  · rw [e32, e30, e28, e26, e24]
    refine f8.trans (f22.trans ?_)
    have hps' : mQ mu24 ps = none := hps.2.1
    rw [e24] at hps'
    have hst' : mI mu28 st = none := hst.1
    rw [e28, e26, e24] at hst'
    exact (Fx.sB (Or.inl ⟨rfl, rfl⟩)).trans ((Fx.sQ (Or.inr hps')).trans ((Fx.sB (Or.inl ⟨rfl, rfl⟩)).trans ((Fx.sI (Or.inr hst')).trans (Fx.sB (Or.inl ⟨rfl, rfl⟩)))))
  · rw [e32]
    exact up_s
  · have : k = 0 ∨ k = 1 ∨ k = 2 ∨ k = 3 ∨ k = 4 ∨ k = 5 := by omega
    rcases this with rfl | rfl | rfl | rfl | rfl | rfl <;> rfl
  · rw [e32, e30, e28, e26]
    exact up_s
  · rw [e32, e30]
    exact up_s
/-- a new paragraph -/
theorem para_init {Post : Mu → Prop} {x : ceP} (hx : mP m v0 = some x) (hcB : 1 ≤ cB) (hP : ∀ m' w, Fx (fun k a => k = 1 ∧ a = v0) m m' → frM m w → mP m' v0 = some (x.1, x.2.1, -1, some w) → (∃ f, mI m' w = some (0, f)) → (∀ a, frM m' a → frM m a ∧ a ≠ w) → Post m') : wpX8_init cB m v0 Post := by
  unfold wpX8_init
  refine ⟨_, hx, fun mu2 e2 => ⟨0, rfl, by decide, by omega, fun w hw mu4 e4 => ⟨(x.1, x.2.1, -1, x.2.2.2), (by rw [e4, e2]; exact up_s), fun mu6 e6 => ⟨by omega, ?_⟩⟩⟩⟩
  have hw' : frM m w := by rw [e2] at hw; exact (fr_P hw).1
  refine hP mu6 w ?_ hw' (by rw [e6]; exact up_s) ⟨fun _ => 0, by rw [e6, e4]; exact up_s⟩ (fun a h => ?_)
  · rw [e6, e4, e2]
    rw [e2] at hw
    exact (Fx.sP (Or.inl ⟨rfl, rfl⟩)).trans ((Fx.sI (Or.inr hw.1)).trans (Fx.sP (Or.inl ⟨rfl, rfl⟩)))
  · rw [e6, e4, e2] at h
    obtain ⟨h1, h2⟩ := fr_I (fr_P h).1
    exact ⟨(fr_P h1).1, h2⟩
/-- a paragraph like another -/
theorem para_copy {Post : Nat → Mu → Prop} {a wd : Nat} {y : ceP} (hy : mP m a = some (y.1, y.2.1, y.2.2.1, some wd)) (h1 : y.1 = 0 ∨ y.1 = 1) (h2 : y.2.1 = 0 ∨ y.2.1 = 1) (hcB : 2 ≤ cB) (hP : ∀ m' r, Fx e0 m m' → frM m r → mP m' r = some (y.1, y.2.1, y.2.2.1, some wd) → Post r m') : wpX8_copy cB m a Post := by
  unfold wpX8_copy
  refine ⟨by omega, fun r hr mu2 e2 => ⟨1, by omega, para_init (x := (0, 0, 0, none)) (by rw [e2]; exact up_s) (Nat.le_refl _) (fun mu5 w f5 hw p5 _ _ => ?_)⟩⟩
  have hne : a ≠ r := fun z => by rw [z, hr.2.2.1] at hy; cases hy
  have f2 : Fx (fun k a => k = 1 ∧ a = r) m mu2 := by rw [e2]; exact Fx.sP (Or.inr hr.2.2.1)
  have a5 : mP mu5 a = some (y.1, y.2.1, y.2.2.1, some wd) := (f2.trans f5).P (fun z => hne z.2) hy
  refine ⟨_, a5, _, p5, h1, fun mu8 e8 => ⟨(y.1, y.2.1, y.2.2.1, some wd), (by rw [e8]; exact up_k hne a5), (y.1, 0, -1, some w), (by rw [e8]; exact up_s), h2, fun mu11 e11 => ⟨(y.1, y.2.1, y.2.2.1, some wd), (by rw [e11, e8]; exact up_k hne (up_k hne a5)), (y.1, y.2.1, -1, some w), (by rw [e11]; exact up_s), fun mu14 e14 => ⟨(y.1, y.2.1, y.2.2.1, some wd), (by rw [e14, e11, e8]; exact up_k hne (up_k hne (up_k hne a5))), wd, rfl, (y.1, y.2.1, y.2.2.1, some w), (by rw [e14]; exact up_s), fun mu17 e17 => ⟨by omega, hP mu17 r ?_ hr ?_⟩⟩⟩⟩⟩
  · have f17 : Fx (fun k a => k = 1 ∧ a = r) mu5 mu17 := by
      rw [e17, e14, e11, e8]
      exact (Fx.sP (Or.inl ⟨rfl, rfl⟩)).trans ((Fx.sP (Or.inl ⟨rfl, rfl⟩)).trans ((Fx.sP (Or.inl ⟨rfl, rfl⟩)).trans (Fx.sP (Or.inl ⟨rfl, rfl⟩))))
    exact (f2.trans (f5.trans f17)).less (fun k b w => Or.inr (by rw [w.2]; exact hr))
  · rw [e17]
    exact up_s
end BKN
