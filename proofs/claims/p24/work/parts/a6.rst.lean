/-! A BOOK AT RANDOM: what holds on the way -/
def exN (bu rn : Nat) : Nat → Nat → Prop := fun t a => (t = 0 ∧ a = bu) ∨ (t = 4 ∧ a = rn)
def OWN (m0 : Mu) (b c st : Nat) (g wd : Nat → Nat) (d : Nat → Int32) : Prop := frM m0 b ∧ frM m0 c ∧ frM m0 st ∧ c ≠ st ∧ (∀ p, p < dP d → frM m0 (g p) ∧ frM m0 (wd p) ∧ wd p ≠ c ∧ wd p ≠ st) ∧ ∀ p p', p < dP d → p' < dP d → g p = g p' → p = p'
def RSt (S0 : ivS) (m0 : Mu) (bu rn : Nat) (S : ivS) (mu : Mu) (b : Nat) (T : List Nat) (hc hl : Bool) (dd : Nat → Int32) (c ps st : Nat) (g wd : Nat → Nat) (bs : Option Nat × Option Nat × Int32) : Prop :=
  Fx (exN bu rn) m0 mu ∧ WB S0 S mu bu T ∧ (∃ x, mR mu rn = some x) ∧ RD T hc hl dd ∧ BK mu b dd c ps st g wd bs ∧ OWN m0 b c st g wd dd ∧ Sm dd ∧ (∃ x, mI m0 bu = some x) ∧ ∃ x, mR m0 rn = some x
theorem RD_ok {T : List Nat} {hc hl : Bool} {dd : Nat → Int32} (h : RD T hc hl dd) : OkB dd := (pText_f (tx := fun i => T.getD i 0) (len := T.length)).2 _ _ (RD_end h (fun _ _ => rfl))
section RST
variable {S0 S : ivS} {m0 mu mu' : Mu} {bu rn b : Nat} {T : List Nat} {hc hl : Bool} {dd : Nat → Int32} {c ps st : Nat} {g wd : Nat → Nat} {bs : Option Nat × Option Nat × Int32}
theorem WB.fx {e : Nat → Nat → Prop} (h : WB S0 S mu bu T) (f : Fx e mu mu') (n : ¬ e 0 bu) : WB S0 S mu' bu T := by
  obtain ⟨h1, g, h2, h3⟩ := h
  exact ⟨h1, g, f.I n h2, h3⟩
/-- what is fresh now was fresh then -/
theorem RSt.fr (h : RSt S0 m0 bu rn S mu b T hc hl dd c ps st g wd bs) {a : Nat} (f : frM mu a) : frM m0 a := by
  obtain ⟨h1, ⟨-, gf, h2, -⟩, ⟨x, h3⟩, -⟩ := h
  refine fx_fr h1 f (fun t w => ?_)
  rcases w with ⟨-, rfl⟩ | ⟨-, rfl⟩
  · rw [f.1] at h2; cases h2
  · rw [f.2.2.2.2.2.1] at h3; cases h3
theorem RSt.move {e : Nat → Nat → Prop} (h : RSt S0 m0 bu rn S mu b T hc hl dd c ps st g wd bs) (f : Fx e mu mu') (F' : Fx (exN bu rn) m0 mu') (hr' : ∃ x, mR mu' rn = some x) (n0 : ¬ e 0 bu) (n2 : ¬ e 2 b) (nc : ¬ e 0 c) (ns : ¬ e 0 st) (n5 : ¬ e 5 ps) (np : ∀ p, p < dP dd → ¬ e 1 (g p) ∧ ¬ e 0 (wd p)) : RSt S0 m0 bu rn S mu' b T hc hl dd c ps st g wd bs :=
  ⟨F', h.2.1.fx f n0, hr', h.2.2.2.1, h.2.2.2.2.1.fx f n2 nc ns n5 np, h.2.2.2.2.2⟩
/-- a number is drawn -/
theorem RSt.drawn (h : RSt S0 m0 bu rn S mu b T hc hl dd c ps st g wd bs) (x : Int32) : RSt S0 m0 bu rn S (sR mu rn x) b T hc hl dd c ps st g wd bs :=
  h.move (e := fun t a => t = 4 ∧ a = rn) (Fx.sR (Or.inl ⟨rfl, rfl⟩)) (fx_toR h.1 (Or.inl (Or.inr ⟨rfl, rfl⟩))) ⟨x, up_s⟩ (fun w => absurd w.1 (by decide)) (fun w => absurd w.1 (by decide)) (fun w => absurd w.1 (by decide)) (fun w => absurd w.1 (by decide)) (fun w => absurd w.1 (by decide)) (fun p _ => ⟨fun w => absurd w.1 (by decide), fun w => absurd w.1 (by decide)⟩)
theorem RSt.below (h : RSt S0 m0 bu rn S mu b T hc hl dd c ps st g wd bs) {n : Nat} (hn : 0 < n) (hn2 : n < 2 ^ 31) {Post : Int32 → Mu → Prop} (hP : ∀ k mu', k < n → (∃ x', mu' = sR mu rn x') → RSt S0 m0 bu rn S mu' b T hc hl dd c ps st g wd bs → Post (nI k) mu') : wpX10_below mu rn (nI n) Post := by
  obtain ⟨x, hx⟩ := h.2.2.1
  exact below_s hx hn hn2 (fun k x' hk => hP k _ hk ⟨x', rfl⟩ (h.drawn x'))
theorem RSt.nbu (h : RSt S0 m0 bu rn S mu b T hc hl dd c ps st g wd bs) {a : Nat} (f : frM m0 a) : a ≠ bu := fun z => by
  obtain ⟨x, hx⟩ := h.2.2.2.2.2.2.2.1
  rw [← z, f.1] at hx
  cases hx
/-- a fresh row of numbers -/
theorem RSt.rowI (h : RSt S0 m0 bu rn S mu b T hc hl dd c ps st g wd bs) {a : Nat} (f : mI mu a = none) (f0 : frM m0 a) (x : ceI) : RSt S0 m0 bu rn S (sI mu a x) b T hc hl dd c ps st g wd bs := by
  refine h.move (e := e0) (Fx.sI (Or.inr f)) (fx_toI h.1 (Or.inr f0.1)) ?_ (fun w => w) (fun w => w) (fun w => w) (fun w => w) (fun w => w) (fun p _ => ⟨fun w => w, fun w => w⟩)
  obtain ⟨y, hy⟩ := h.2.2.1
  exact ⟨y, hy⟩
/-- a statement is written and read -/
theorem RSt.wrote (h : RSt S0 m0 bu rn S mu b T hc hl dd c ps st g wd bs) {S' : ivS} {T' : List Nat} {hc' hl' : Bool} (f : Fx (exR bu) mu mu') (hW : WB S0 S' mu' bu T') (hR : RD T' hc' hl' dd) : RSt S0 m0 bu rn S' mu' b T' hc' hl' dd c ps st g wd bs := by
  have own := h.2.2.2.2.2.1
  obtain ⟨y, hy⟩ := h.2.2.1
  exact ⟨fx_app h.1 f (fun t a w => Or.inl (Or.inl w)), hW, ⟨y, f.R (fun w => absurd w.1 (by decide)) hy⟩, hR, h.2.2.2.2.1.fx f (fun w => absurd w.1 (by decide)) (fun w => h.nbu own.2.1 w.2) (fun w => h.nbu own.2.2.1 w.2) (fun w => absurd w.1 (by decide)) (fun p hp => ⟨fun w => absurd w.1 (by decide), fun w => h.nbu (own.2.2.2.2.1 p hp).2.1 w.2⟩), h.2.2.2.2.2⟩
end RST
section DDS
variable {dd : Nat → Int32} {w h s v : Nat}
theorem bkN_P : dP (bkN w h s) = 0 := rfl
theorem bkN_W (hw : w < 2 ^ 31) : dW (bkN w h s) = w := nz_nI hw
theorem bkN_H (hw : h < 2 ^ 31) : dH (bkN w h s) = h := nz_nI hw
theorem bkN_S (hw : s < 2 ^ 31) : dS (bkN w h s) = s := nz_nI hw
theorem bkN_Sm (h1 : w ≤ 17) (h2 : h ≤ 4) (h3 : s ≤ 4) : Sm (bkN w h s) := by
  refine ⟨by rw [bkN_P]; omega, by rw [bkN_H (by omega)]; exact h2, ?_, fun k hk => ?_, fun p hp => ?_, by rw [bkN_W (by omega)]; exact h1, by rw [bkN_S (by omega)]; exact h3⟩
  · show nz (nI 1) ≤ 2
    decide
  · have : k = 0 ∨ k = 1 ∨ k = 2 ∨ k = 3 ∨ k = 4 ∨ k = 5 := by omega
    rcases this with rfl | rfl | rfl | rfl | rfl | rfl
    · show nz (nI 1) ≤ 39; decide
    · show nz (nI 1) ≤ 39; decide
    · show nz (nI 2) ≤ 39; decide
    · show nz (nI 20) ≤ 39; decide
    · show nz (nI 10) ≤ 39; decide
    · show nz (nI 30) ≤ 39; decide
  · rw [bkN_P] at hp
    exact absurd hp (Nat.not_lt_zero _)
theorem lim_eq {j : Nat} (hj : j ≠ 3) : upd dd 3 (nI v) j = dd j := pk_un hj
theorem lim_Sm (hS : Sm dd) (hv : v ≤ 2) : Sm (upd dd 3 (nI v)) := by
  refine ⟨hS.1, hS.2.1, ?_, fun k hk => ?_, fun p hp => ?_, hS.2.2.2.2.2.1, hS.2.2.2.2.2.2⟩
  · show nz (upd dd 3 (nI v) 3) ≤ 2
    rw [pk_us, nz_nI (by omega)]
    exact hv
  · have := hS.2.2.2.1 k hk
    show nz (upd dd 3 (nI v) (5 + k)) ≤ 39
    rw [lim_eq (by omega)]
    exact this
  · have := hS.2.2.2.2.1 p hp
    show nz (upd dd 3 (nI v) (11 + 34 * p + 3)) ≤ 5
    rw [lim_eq (by omega)]
    exact this
theorem lim_BK {mu : Mu} {b c ps st : Nat} {g wd : Nat → Nat} {bs : Option Nat × Option Nat × Int32} (hB : BK mu b dd c ps st g wd bs) : BK (sB mu b (dd 0, dd 1, dd 2, nI v, some c, some ps, bs.1, bs.2.1, some st, bs.2.2)) b (upd dd 3 (nI v)) c ps st g wd bs := by
  obtain ⟨-, ⟨fc, kc, kc'⟩, ⟨qq, k3, k3'⟩, k4, ft, kt⟩ := hB
  refine ⟨?_, ⟨fc, kc, fun k hk => by rw [lim_eq (by omega)]; exact kc' k hk⟩, ⟨qq, k3, k3'⟩, fun p hp => ?_, ⟨ft, kt⟩⟩
  · rw [lim_eq (by decide), lim_eq (by decide), lim_eq (by decide), pk_us]
    exact up_s
  · obtain ⟨j1, fj, j2, j3⟩ := k4 p hp
    have en : dN (upd dd 3 (nI v)) p = dN dd p := by
      show nz (upd dd 3 (nI v) (11 + 34 * p + 3)) = _
      rw [lim_eq (by omega)]
      rfl
    rw [lim_eq (by omega), lim_eq (by omega), lim_eq (by omega), en]
    exact ⟨j1, fj, j2, fun k hk => by rw [lim_eq (by omega)]; exact j3 k hk⟩
theorem cost_eq {f : Nat → Nat} {j : Nat} (hj : j < 5 ∨ 11 ≤ j) : costD dd f j = dd j := if_neg (by omega)
theorem cost_in {f : Nat → Nat} {k : Nat} (hk : k < 6) : costD dd f (5 + k) = nI (f k) := by
  unfold costD
  rw [if_pos (by omega), show 5 + k - 5 = k by omega]
theorem cost_Sm {f : Nat → Nat} (hS : Sm dd) (hv : ∀ k, k < 6 → f k ≤ 39) : Sm (costD dd f) := by
  have eP : dP (costD dd f) = dP dd := congrArg nz (cost_eq (by omega))
  refine ⟨by rw [eP]; exact hS.1, ?_, ?_, fun k hk => ?_, fun p hp => ?_, ?_, ?_⟩
  · rw [show dH (costD dd f) = dH dd from congrArg nz (cost_eq (by omega))]; exact hS.2.1
  · rw [show dL (costD dd f) = dL dd from congrArg nz (cost_eq (by omega))]; exact hS.2.2.1
  · show nz (costD dd f (5 + k)) ≤ 39
    have := hv k hk
    rw [cost_in hk, nz_nI (by omega)]
    exact this
  · rw [eP] at hp
    rw [show dN (costD dd f) p = dN dd p from congrArg nz (cost_eq (by omega))]
    exact hS.2.2.2.2.1 p hp
  · rw [show dW (costD dd f) = dW dd from congrArg nz (cost_eq (by omega))]; exact hS.2.2.2.2.2.1
  · rw [show dS (costD dd f) = dS dd from congrArg nz (cost_eq (by omega))]; exact hS.2.2.2.2.2.2
theorem par_lo {hd pg : Bool} {n : Nat} {f : Nat → Nat} {j : Nat} (hj : j < 11 + 34 * dP dd) (h4 : j ≠ 4) : parD dd hd pg n f j = dd j := by
  unfold parD
  rw [if_neg h4, if_neg (by omega), if_neg (by omega), if_neg (by omega), if_neg (by omega), if_neg (by omega)]
theorem par_P {hd pg : Bool} {n : Nat} {f : Nat → Nat} (h16 : dP dd ≤ 16) : dP (parD dd hd pg n f) = dP dd + 1 := by
  show nz (parD dd hd pg n f 4) = _
  have e : parD dd hd pg n f 4 = nI (dP dd + 1) := if_pos rfl
  rw [e, nz_nI (by omega)]
theorem par_new {hd pg : Bool} {n : Nat} {f : Nat → Nat} (hn : n ≤ 30) : parD dd hd pg n f (11 + 34 * dP dd) = bI hd ∧ parD dd hd pg n f (11 + 34 * dP dd + 1) = bI pg ∧ parD dd hd pg n f (11 + 34 * dP dd + 2) = -1 ∧ dN (parD dd hd pg n f) (dP dd) = n ∧ ∀ k, k < n → parD dd hd pg n f (11 + 34 * dP dd + (4 + k)) = nI (f k) := by
  refine ⟨?_, ?_, ?_, ?_, fun k hk => ?_⟩
  · unfold parD
    rw [if_neg (by omega), if_pos rfl]
  · unfold parD
    rw [if_neg (by omega), if_neg (by omega), if_pos rfl]
  · unfold parD
    rw [if_neg (by omega), if_neg (by omega), if_neg (by omega), if_pos rfl]
  · have e : parD dd hd pg n f (11 + 34 * dP dd + 3) = nI n := by
      unfold parD
      rw [if_neg (by omega), if_neg (by omega), if_neg (by omega), if_neg (by omega), if_pos rfl]
    show nz (parD dd hd pg n f (11 + 34 * dP dd + 3)) = n
    rw [e, nz_nI (by omega)]
  · unfold parD
    rw [if_neg (by omega), if_neg (by omega), if_neg (by omega), if_neg (by omega), if_neg (by omega), if_pos (by omega), show 11 + 34 * dP dd + (4 + k) - (11 + 34 * dP dd + 4) = k by omega]
theorem par_Sm {hd pg : Bool} {n : Nat} {f : Nat → Nat} (hS : Sm dd) (h3 : dP dd < 3) (hn : n ≤ 5) : Sm (parD dd hd pg n f) := by
  have eP := par_P (dd := dd) (hd := hd) (pg := pg) (n := n) (f := f) (by omega)
  refine ⟨by rw [eP]; omega, ?_, ?_, fun k hk => ?_, fun p hp => ?_, ?_, ?_⟩
  · rw [show dH (parD dd hd pg n f) = dH dd from congrArg nz (par_lo (by omega) (by decide))]; exact hS.2.1
  · rw [show dL (parD dd hd pg n f) = dL dd from congrArg nz (par_lo (by omega) (by decide))]; exact hS.2.2.1
  · rw [show dC (parD dd hd pg n f) k = dC dd k from congrArg nz (par_lo (by omega) (by omega))]; exact hS.2.2.2.1 k hk
  · rw [eP] at hp
    by_cases y : p = dP dd
    · rw [y, (par_new (by omega)).2.2.2.1]
      exact hn
    · rw [show dN (parD dd hd pg n f) p = dN dd p from congrArg nz (par_lo (by omega) (by omega))]
      exact hS.2.2.2.2.1 p (by omega)
  · rw [show dW (parD dd hd pg n f) = dW dd from congrArg nz (par_lo (by omega) (by decide))]; exact hS.2.2.2.2.2.1
  · rw [show dS (parD dd hd pg n f) = dS dd from congrArg nz (par_lo (by omega) (by decide))]; exact hS.2.2.2.2.2.2
end DDS
