/-! WHAT STAYS: cells that are kept, but for those that e names (0 rows of ints, 1 paragraphs, 2 books, 3 plans, 4 the source of numbers, 5 rows of references) -/
def Fx (e : Nat → Nat → Prop) (m m' : Mu) : Prop :=
  (∀ a x, ¬ e 0 a → mI m a = some x → mI m' a = some x) ∧ (∀ a x, ¬ e 5 a → mQ m a = some x → mQ m' a = some x) ∧ (∀ a x, ¬ e 1 a → mP m a = some x → mP m' a = some x) ∧ (∀ a x, ¬ e 2 a → mB m a = some x → mB m' a = some x) ∧ (∀ a x, ¬ e 3 a → mL m a = some x → mL m' a = some x) ∧ (∀ a x, ¬ e 4 a → mR m a = some x → mR m' a = some x) ∧ (∀ a x, mT m a = some x → mT m' a = some x) ∧ (∀ a x, mS m a = some x → mS m' a = some x) ∧ ∀ a x, mG m a = some x → mG m' a = some x
def e0 : Nat → Nat → Prop := fun _ _ => False
section FX
variable {e e' : Nat → Nat → Prop} {m m' m'' : Mu} {a : Nat}
theorem Fx.rf : Fx e m m := ⟨fun _ _ _ h => h, fun _ _ _ h => h, fun _ _ _ h => h, fun _ _ _ h => h, fun _ _ _ h => h, fun _ _ _ h => h, fun _ _ h => h, fun _ _ h => h, fun _ _ h => h⟩
theorem Fx.trans (h : Fx e m m') (k : Fx e m' m'') : Fx e m m'' :=
  ⟨fun a x n y => k.1 a x n (h.1 a x n y), fun a x n y => k.2.1 a x n (h.2.1 a x n y), fun a x n y => k.2.2.1 a x n (h.2.2.1 a x n y), fun a x n y => k.2.2.2.1 a x n (h.2.2.2.1 a x n y), fun a x n y => k.2.2.2.2.1 a x n (h.2.2.2.2.1 a x n y), fun a x n y => k.2.2.2.2.2.1 a x n (h.2.2.2.2.2.1 a x n y), fun a x y => k.2.2.2.2.2.2.1 a x (h.2.2.2.2.2.2.1 a x y), fun a x y => k.2.2.2.2.2.2.2.1 a x (h.2.2.2.2.2.2.2.1 a x y), fun a x y => k.2.2.2.2.2.2.2.2 a x (h.2.2.2.2.2.2.2.2 a x y)⟩
theorem Fx.mono (h : Fx e m m') (hs : ∀ t a, e t a → e' t a) : Fx e' m m' :=
  ⟨fun a x n y => h.1 a x (fun z => n (hs _ _ z)) y, fun a x n y => h.2.1 a x (fun z => n (hs _ _ z)) y, fun a x n y => h.2.2.1 a x (fun z => n (hs _ _ z)) y, fun a x n y => h.2.2.2.1 a x (fun z => n (hs _ _ z)) y, fun a x n y => h.2.2.2.2.1 a x (fun z => n (hs _ _ z)) y, fun a x n y => h.2.2.2.2.2.1 a x (fun z => n (hs _ _ z)) y, h.2.2.2.2.2.2.1, h.2.2.2.2.2.2.2.1, h.2.2.2.2.2.2.2.2⟩
/-- what was made since isn't among the kept -/
theorem Fx.less (h : Fx e' m m') (hs : ∀ t a, e' t a → e t a ∨ frM m a) : Fx e m m' := by
  refine ⟨fun a x n y => h.1 a x (fun z => ?_) y, fun a x n y => h.2.1 a x (fun z => ?_) y, fun a x n y => h.2.2.1 a x (fun z => ?_) y, fun a x n y => h.2.2.2.1 a x (fun z => ?_) y, fun a x n y => h.2.2.2.2.1 a x (fun z => ?_) y, fun a x n y => h.2.2.2.2.2.1 a x (fun z => ?_) y, h.2.2.2.2.2.2.1, h.2.2.2.2.2.2.2.1, h.2.2.2.2.2.2.2.2⟩
  · rcases hs _ _ z with q | q
    · exact n q
    · rw [q.1] at y; cases y
  · rcases hs _ _ z with q | q
    · exact n q
    · rw [q.2.1] at y; cases y
  · rcases hs _ _ z with q | q
    · exact n q
    · rw [q.2.2.1] at y; cases y
  · rcases hs _ _ z with q | q
    · exact n q
    · rw [q.2.2.2.1] at y; cases y
  · rcases hs _ _ z with q | q
    · exact n q
    · rw [q.2.2.2.2.1] at y; cases y
  · rcases hs _ _ z with q | q
    · exact n q
    · rw [q.2.2.2.2.2.1] at y; cases y
theorem up_k {α : Type} {f : Nat → Option α} {k : Nat} {v x : α} {i : Nat} (h : i ≠ k) (hx : f i = some x) : va_up f k (some v) i = some x := by rw [up_n h]; exact hx
theorem up_up {α : Type} (f : Nat → α) (k : Nat) (v w : α) : va_up (va_up f k v) k w = va_up f k w := by
  funext j
  by_cases h : j = k
  · subst h; rw [up_s, up_s]
  · rw [up_n h, up_n h, up_n h]
theorem Fx.sI {x : ceI} (h : e 0 a ∨ mI m a = none) : Fx e m (sI m a x) :=
  ⟨fun k y n hy => up_k (fun z => by subst z; exact h.elim n (fun q => by rw [q] at hy; cases hy)) hy, fun _ _ _ h => h, fun _ _ _ h => h, fun _ _ _ h => h, fun _ _ _ h => h, fun _ _ _ h => h, fun _ _ h => h, fun _ _ h => h, fun _ _ h => h⟩
theorem Fx.sQ {x : ceQ} (h : e 5 a ∨ mQ m a = none) : Fx e m (sQ m a x) :=
  ⟨fun _ _ _ h => h, fun k y n hy => up_k (fun z => by subst z; exact h.elim n (fun q => by rw [q] at hy; cases hy)) hy, fun _ _ _ h => h, fun _ _ _ h => h, fun _ _ _ h => h, fun _ _ _ h => h, fun _ _ h => h, fun _ _ h => h, fun _ _ h => h⟩
theorem Fx.sP {x : ceP} (h : e 1 a ∨ mP m a = none) : Fx e m (sP m a x) :=
  ⟨fun _ _ _ h => h, fun _ _ _ h => h, fun k y n hy => up_k (fun z => by subst z; exact h.elim n (fun q => by rw [q] at hy; cases hy)) hy, fun _ _ _ h => h, fun _ _ _ h => h, fun _ _ _ h => h, fun _ _ h => h, fun _ _ h => h, fun _ _ h => h⟩
theorem Fx.sB {x : ceB} (h : e 2 a ∨ mB m a = none) : Fx e m (sB m a x) :=
  ⟨fun _ _ _ h => h, fun _ _ _ h => h, fun _ _ _ h => h, fun k y n hy => up_k (fun z => by subst z; exact h.elim n (fun q => by rw [q] at hy; cases hy)) hy, fun _ _ _ h => h, fun _ _ _ h => h, fun _ _ h => h, fun _ _ h => h, fun _ _ h => h⟩
theorem Fx.sL {x : ceL} (h : e 3 a ∨ mL m a = none) : Fx e m (sL m a x) :=
  ⟨fun _ _ _ h => h, fun _ _ _ h => h, fun _ _ _ h => h, fun _ _ _ h => h, fun k y n hy => up_k (fun z => by subst z; exact h.elim n (fun q => by rw [q] at hy; cases hy)) hy, fun _ _ _ h => h, fun _ _ h => h, fun _ _ h => h, fun _ _ h => h⟩
theorem Fx.sR {x : ceR} (h : e 4 a ∨ mR m a = none) : Fx e m (sR m a x) :=
  ⟨fun _ _ _ h => h, fun _ _ _ h => h, fun _ _ _ h => h, fun _ _ _ h => h, fun _ _ _ h => h, fun k y n hy => up_k (fun z => by subst z; exact h.elim n (fun q => by rw [q] at hy; cases hy)) hy, fun _ _ h => h, fun _ _ h => h, fun _ _ h => h⟩
theorem Fx.sT {x : ceI} (h : mT m a = none) : Fx e m (sT m a x) :=
  ⟨fun _ _ _ h => h, fun _ _ _ h => h, fun _ _ _ h => h, fun _ _ _ h => h, fun _ _ _ h => h, fun _ _ _ h => h, fun k y hy => up_k (fun z => by subst z; rw [h] at hy; cases hy) hy, fun _ _ h => h, fun _ _ h => h⟩
theorem Fx.I (h : Fx e m m') {x : ceI} (n : ¬ e 0 a) (y : mI m a = some x) : mI m' a = some x := h.1 a x n y
theorem Fx.Q (h : Fx e m m') {x : ceQ} (n : ¬ e 5 a) (y : mQ m a = some x) : mQ m' a = some x := h.2.1 a x n y
theorem Fx.P (h : Fx e m m') {x : ceP} (n : ¬ e 1 a) (y : mP m a = some x) : mP m' a = some x := h.2.2.1 a x n y
theorem Fx.B (h : Fx e m m') {x : ceB} (n : ¬ e 2 a) (y : mB m a = some x) : mB m' a = some x := h.2.2.2.1 a x n y
theorem Fx.L (h : Fx e m m') {x : ceL} (n : ¬ e 3 a) (y : mL m a = some x) : mL m' a = some x := h.2.2.2.2.1 a x n y
theorem Fx.R (h : Fx e m m') {x : ceR} (n : ¬ e 4 a) (y : mR m a = some x) : mR m' a = some x := h.2.2.2.2.2.1 a x n y
end FX
section FB
variable {e : Nat → Nat → Prop} {m m' : Mu} {b pl : Nat} {d : Nat → Int32} {c ps st sa ta : Nat} {g wd : Nat → Nat} {bs bs' : Option Nat × Option Nat × Int32} {sg : Nat → Nat} {q : Pl} {co : Int32}
/-- a book is kept, but for what it keeps of its plans -/
theorem BK.up (hB : BK m b d c ps st g wd bs) (h : Fx e m m') (h1 : mB m' b = some (d 0, d 1, d 2, d 3, some c, some ps, bs'.1, bs'.2.1, some st, bs'.2.2)) (h2 : ∃ f, mI m' st = some (99, f)) (n0 : ¬ e 0 c) (n5 : ¬ e 5 ps) (np : ∀ p, p < dP d → ¬ e 1 (g p) ∧ ¬ e 0 (wd p)) : BK m' b d c ps st g wd bs' := by
  obtain ⟨-, ⟨fc, hc, hc'⟩, ⟨qq, h3, h3'⟩, h4, -⟩ := hB
  refine ⟨h1, ⟨fc, h.I n0 hc, hc'⟩, ⟨qq, h.Q n5 h3, h3'⟩, fun p hp => ?_, h2⟩
  obtain ⟨h5, f, h6, h7⟩ := h4 p hp
  exact ⟨h.P (np p hp).1 h5, f, h.I (np p hp).2 h6, h7⟩
theorem BK.fx (hB : BK m b d c ps st g wd bs) (h : Fx e m m') (nb : ¬ e 2 b) (n0 : ¬ e 0 c) (ns : ¬ e 0 st) (n5 : ¬ e 5 ps) (np : ∀ p, p < dP d → ¬ e 1 (g p) ∧ ¬ e 0 (wd p)) : BK m' b d c ps st g wd bs := by
  have hB' := hB
  obtain ⟨h1, -, -, -, f, hf⟩ := hB
  exact hB'.up h (h.B nb h1) ⟨f, h.I ns hf⟩ n0 n5 np
theorem LK.fx (hL : LK m pl d sg q co sa ta) (h : Fx e m m') (n3 : ¬ e 3 pl) (n0 : ¬ e 0 sa) (n1 : ¬ e 0 ta) : LK m' pl d sg q co sa ta := by
  obtain ⟨l1, ⟨f, l2, l2'⟩, ft, l3, l3'⟩ := hL
  exact ⟨h.L n3 l1, ⟨f, h.I n0 l2, l2'⟩, ft, h.I n1 l3, l3'⟩
end FB
/-! one more, at the end of a row -/
theorem with_L {cB : Nat} {Post : Nat → Mu → Prop} {m0 : Mu} {u v q n : Nat} {f : Nat → Int32} {x : Int32} (hn : n ≤ 900) (hv : mI m0 v = some (n, f)) (hq : frM m0 q) (hu : u ≤ cB) (hP : ∀ f', (∀ i, i < n → f' i = f i) → f' n = x → Post q (sI m0 q (n + 1, f'))) : ∀ r k : Nat, k + r = n → ∀ fk : Nat → Int32, (∀ i, i < k → fk i = f i) → wpL_with_L9 cB Post (r + 1) (sI m0 q (n + 1, fk)) u v x q (nI k)
  | r, k, hk, fk, hf => by
    have hvq : v ≠ q := fun z => by subst z; rw [hq.1] at hv; cases hv
    have hv1 : mI (sI m0 q (n + 1, fk)) v = some (n, f) := up_k hvq hv
    have hq1 : mI (sI m0 q (n + 1, fk)) q = some (n + 1, fk) := up_s
    unfold wpL_with_L9
    refine ⟨_, _, hv1, fun h => ⟨_, _, hv1, _, _, n, hq1, rfl, by omega, by omega, fun m7 e7 => ⟨hu, ?_⟩⟩, fun h => ?_⟩
    · have e : k = n := by
        have := (nI_leI (by omega) (by omega)).mp h
        omega
      subst e
      subst e7
      have e8 : sI (sI m0 q (k + 1, fk)) q (k + 1, upd fk k x) = sI m0 q (k + 1, upd fk k x) := by
        show (va_up (va_up m0.1 q _) q _, _) = _
        rw [up_up]
      rw [e8]
      exact hP _ (fun i hi => (pk_un (by omega)).trans (hf i hi)) pk_us
    · have hkn : k < n := by
        rcases Nat.lt_or_ge k n with z | z
        · exact z
        · exact absurd (nI_le z (by omega)) h
      refine ⟨_, _, k, hv1, rfl, hkn, by omega, _, _, k, hq1, rfl, by omega, by omega, fun m10 e10 => ?_⟩
      subst e10
      have e8 : sI (sI m0 q (n + 1, fk)) q (n + 1, upd fk k (f k)) = sI m0 q (n + 1, upd fk k (f k)) := by
        show (va_up (va_up m0.1 q _) q _, _) = _
        rw [up_up]
      rw [e8, li1, nI_add]
      cases r with
      | zero => exact absurd hkn (by omega)
      | succ r =>
        refine with_L hn hv hq hu hP r (k + 1) (by omega) _ (fun i hi => ?_)
        by_cases z : i = k
        · subst z; exact pk_us
        · exact (pk_un z).trans (hf i (by omega))
theorem with_s {cB : Nat} {Post : Nat → Mu → Prop} {m : Mu} {v n : Nat} {f : Nat → Int32} {x : Int32} (hn : n ≤ 900) (hc : 1 + (n + 1) / 16 ≤ cB) (hv : mI m v = some (n, f)) (hP : ∀ q f', frM m q → (∀ i, i < n → f' i = f i) → f' n = x → Post q (sI m q (n + 1, f'))) : wpL_with cB m v x Post := by
  unfold wpL_with
  refine ⟨_, _, hv, n + 1, by rw [li1, nI_add], by omega, by omega, fun q hq m3 e3 => ?_⟩
  subst e3
  exact ⟨n + 1, with_L hn hv hq (by omega) (fun f' h1 h2 => hP q f' hq h1 h2) n 0 (Nat.zero_add _) _ (fun i hi => absurd hi (Nat.not_lt_zero _))⟩
/-! a new plan -/
theorem planI_s {cB : Nat} {Post : Mu → Prop} {m : Mu} {a : Nat} {x : ceL} (hc : 2 ≤ cB) (ha : mL m a = some x) (hP : ∀ m' y z, Fx (fun t k => t = 3 ∧ k = a) m m' → mL m' a = some (x.1, some y, some z) → (∃ f, mI m' z = some (0, f)) → mB m' = mB m → frM m z → Post m') : wpX9_init cB m a Post := by
  unfold wpX9_init
  refine ⟨0, rfl, by decide, by omega, fun y hy m2 e2 => ⟨_, (show mL m2 a = some x by rw [e2]; exact ha), fun m4 e4 => ⟨0, rfl, by decide, by omega, fun z hz m6 e6 => ⟨(x.1, some y, x.2.2), (show mL m6 a = some (x.1, some y, x.2.2) by rw [e6, e4]; exact up_s), fun m8 e8 => ⟨by omega, ?_⟩⟩⟩⟩⟩
  have f2 : Fx (fun t k => t = 3 ∧ k = a) m m2 := by rw [e2]; exact Fx.sI (Or.inr hy.1)
  have f4 : Fx (fun t k => t = 3 ∧ k = a) m2 m4 := by rw [e4]; exact Fx.sL (Or.inl ⟨rfl, rfl⟩)
  have f6 : Fx (fun t k => t = 3 ∧ k = a) m4 m6 := by rw [e6]; exact Fx.sI (Or.inr hz.1)
  have f8 : Fx (fun t k => t = 3 ∧ k = a) m6 m8 := by rw [e8]; exact Fx.sL (Or.inl ⟨rfl, rfl⟩)
  refine hP m8 y z (f2.trans (f4.trans (f6.trans f8))) (by rw [e8]; exact up_s) ⟨fun _ => 0, by rw [e8]; show mI m6 z = _; rw [e6]; exact up_s⟩ (by rw [e8]; show mB m6 = _; rw [e6]; show mB m4 = _; rw [e4]; show mB m2 = _; rw [e2]) ?_
  have hm : ∀ k, frM m4 k → frM m k := fun k hk => by
    obtain ⟨k1, k2, k3, k4, k5, k6, k7, k8, k9⟩ := hk
    rw [e4] at k1 k2 k3 k4 k5 k6 k7 k8 k9
    have k5 : va_up (mL m2) a _ k = none := k5
    have k1 : mI m2 k = none := k1
    rw [e2] at k1 k2 k3 k4 k6 k7 k8 k9
    refine ⟨?_, k2, k3, k4, ?_, k6, k7, k8, k9⟩
    · by_cases w : k = y
      · rw [w]; exact hy.1
      · have k1 : va_up (mI m) y _ k = none := k1
        rw [up_n w] at k1
        exact k1
    · by_cases w : k = a
      · rw [w, up_s] at k5; cases k5
      · rw [up_n w, e2] at k5
        exact k5
  exact hm z hz
