/-! A BOOK AT RANDOM: from its head on -/
section RN4
variable {S0 S : ivS} {m0 mu mu' : Mu} {bu rn b : Nat} {T : List Nat} {hc hl : Bool} {dd : Nat → Int32} {c ps st : Nat} {g wd : Nat → Nat} {bs : Option Nat × Option Nat × Int32} {cB u : Nat}
theorem rb106_s {Post : Nat → ivS → Mu → Prop} (h : RSt S0 m0 bu rn S mu b T false hl dd c ps st g wd bs) (h0 : dP dd = 0) (hT : T.length ≤ 40) (hu : u + 50 ≤ cB) (hP : FIN S0 m0 bu rn b Post) : wpL_randomBook_b106 cB Post S mu u bu rn b := by
  obtain ⟨x, hx⟩ := h.2.2.1
  unfold wpL_randomBook_b106
  refine ⟨x, hx, by omega, h.below (n := 4) (by decide) (by decide) (fun k m1 hk hm1 h' => ⟨k + 1, ?_⟩)⟩
  have := paras_L (cB := cB) (hl := hl) (many := k) (by omega) hP k u S m1 T dd ps g wd h' (by omega) (by omega) (by omega)
  rw [h0] at this
  exact this
theorem randomBook_s {Post : Nat → ivS → Mu → Prop} {x : Int32} (hW : WB S0 S0 m0 bu []) (hr : mR m0 rn = some x) (hcB : 80 ≤ cB) (hP : ∀ b, FIN S0 m0 bu rn b Post) : wpL_randomBook cB S0 m0 bu rn Post := by
  obtain ⟨-, fb, hbu, -⟩ := id hW
  have nbu : ∀ a, frM m0 a → a ≠ bu := fun a f z => by rw [← z, f.1] at hbu; cases hbu
  unfold wpL_randomBook
  refine ⟨by omega, fun b hb mu2 e2 => ⟨9, by omega, book_init (x := (0, 0, 0, 0, none, none, none, none, none, 0)) (by rw [e2]; exact up_s) (Nat.le_refl _) (fun mu5 c ps st f5 hc hps hst hcs b5 c5 p5 s5 => ?_)⟩⟩
  have r2 : ∀ a, frM mu2 a → frM m0 a := fun a h => by rw [e2] at h; exact (fr_B h).1
  have hc0 := r2 c hc
  have hps0 := r2 ps hps
  have hst0 := r2 st hst
  have F5 : Fx (exN bu rn) m0 mu5 := fx_app (by rw [e2]; exact fx_toB Fx.rf (Or.inr hb.2.2.2.1)) f5 (fun t a w => Or.inr (by rw [w.2]; exact hb))
  have I5 : mI mu5 bu = some (8, fb) := f5.I (fun w => absurd w.1 (by decide)) (by rw [e2]; exact hbu)
  have R5 : mR mu5 rn = some x := f5.R (fun w => absurd w.1 (by decide)) (by rw [e2]; exact hr)
  obtain ⟨fc, c5, c5'⟩ := c5
  obtain ⟨qq, p5⟩ := p5
  obtain ⟨fs, s5⟩ := s5
  refine ⟨x, R5, by omega, below_s (n := 8) R5 (by decide) (by decide) (fun k1 x1 hk1 => ⟨(40, 10, 4, 1, some c, some ps, none, none, some st, 0), b5, fun mu10 e10 => ?_⟩)⟩
  have w10 : (10 : Int32) + nI k1 = nI (10 + k1) := by rw [li10, nI_add]
  rw [w10] at e10
  have R10 : mR mu10 rn = some x1 := by rw [e10]; exact up_s
  refine ⟨x1, R10, by omega, below_s (n := 3) R10 (by decide) (by decide) (fun k2 x2 hk2 => ⟨(nI (10 + k1), 10, 4, 1, some c, some ps, none, none, some st, 0), by rw [e10]; exact up_s, fun mu15 e15 => ?_⟩)⟩
  have w15 : (2 : Int32) + nI k2 = nI (2 + k2) := by rw [li2, nI_add]
  rw [w15] at e15
  have R15 : mR mu15 rn = some x2 := by rw [e15]; exact up_s
  refine ⟨x2, R15, by omega, below_s (n := 5) R15 (by decide) (by decide) (fun k3 x3 hk3 => ⟨(nI (10 + k1), nI (2 + k2), 4, 1, some c, some ps, none, none, some st, 0), by rw [e15]; exact up_s, fun mu20 e20 => ?_⟩)⟩
  have b20 : mB mu20 b = some (nI (10 + k1), nI (2 + k2), nI k3, 1, some c, some ps, none, none, some st, 0) := by rw [e20]; exact up_s
  have R20 : mR mu20 rn = some x3 := by rw [e20]; exact up_s
  have I20 : mI mu20 = mI mu5 := by rw [e20, e15, e10]
  have Q20 : mQ mu20 = mQ mu5 := by rw [e20, e15, e10]
  have F20 : Fx (exN bu rn) m0 mu20 := by
    rw [e20, e15, e10]
    have nb : exN bu rn 2 b ∨ mB m0 b = none := Or.inr hb.2.2.2.1
    have nr : exN bu rn 4 rn ∨ mR m0 rn = none := Or.inl (Or.inr ⟨rfl, rfl⟩)
    exact fx_toB (fx_toR (fx_toB (fx_toR (fx_toB (fx_toR F5 nr) nb) nr) nb) nr) nb
  refine ⟨3, rfl, by decide, by omega, fun a ha mu22 e22 => ?_⟩
  have ha0 : frM m0 a := by
    refine fx_fr F20 ha (fun t w => ?_)
    rcases w with ⟨-, rfl⟩ | ⟨-, rfl⟩
    · have := ha.1; rw [I20, I5] at this; cases this
    · have := ha.2.2.2.2.2.1; rw [R20] at this; cases this
  have hnc : c ≠ a := fun z => by have := ha.1; rw [I20, ← z, c5] at this; cases this
  have hnst : st ≠ a := fun z => by have := ha.1; rw [I20, ← z, s5] at this; cases this
  have b22 : mB mu22 b = some (nI (10 + k1), nI (2 + k2), nI k3, 1, some c, some ps, none, none, some st, 0) := by rw [e22]; exact b20
  have i22 : mI mu22 a = some (3, fun _ => 0) := by rw [e22]; exact up_s
  refine ⟨_, b22, 3, _, 0, i22, rfl, by decide, by decide, fun mu25 e25 => ?_⟩
  have i25 : mI mu25 a = some (3, upd (fun _ => 0) 0 (nI (10 + k1))) := by rw [e25]; exact up_s
  refine ⟨_, (by rw [e25]; exact b22), 3, _, 1, i25, rfl, by decide, by decide, fun mu28 e28 => ?_⟩
  have i28 : mI mu28 a = some (3, upd (upd (fun _ => 0) 0 (nI (10 + k1))) 1 (nI (2 + k2))) := by rw [e28]; exact up_s
  refine ⟨_, (by rw [e28, e25]; exact b22), 3, _, 2, i28, rfl, by decide, by decide, fun mu31 e31 => ⟨0, by omega, ?_⟩⟩
  have i31 : mI mu31 a = some (3, upd (upd (upd (fun _ => 0) 0 (nI (10 + k1))) 1 (nI (2 + k2))) 2 (nI k3)) := by rw [e31]; exact up_s
  have F31 : Fx e0 mu20 mu31 := by
    rw [e31, e28, e25, e22]
    exact fx_toI (fx_toI (fx_toI (fx_toI Fx.rf (Or.inr ha.1)) (Or.inr ha.1)) (Or.inr ha.1)) (Or.inr ha.1)
  have W31 : WB S0 S0 mu31 bu [] := by
    obtain ⟨g1, g, g2, g3⟩ := hW
    rw [hbu] at g2
    cases g2
    exact ⟨g1, fb, F31.I (fun w => w) (by rw [I20]; exact I5), g3⟩
  refine writeAll_K_s (ns := [10 + k1, 2 + k2, k3]) (by decide) W31 (nbu a ha0) i31 (fun i hi => ?_) (show 3 ≤ 100 by decide) (by show 0 + (stL 0).length + 3 * 3 + 1 ≤ 680; rw [stL_fst.1]; decide) (fun S32 m32 f32 W32 => ?_)
  · have : i = 0 ∨ i = 1 ∨ i = 2 := by have : i < 3 := hi; omega
    rcases this with rfl | rfl | rfl
    · exact ⟨rfl, show 10 + k1 < 100 by omega⟩
    · exact ⟨rfl, show 2 + k2 < 100 by omega⟩
    · exact ⟨rfl, show k3 < 100 by omega⟩
  have F32 : Fx (exN bu rn) m0 m32 := fx_app (fx_app F20 F31 (fun t a w => w.elim)) f32 (fun t a w => Or.inl (Or.inl w))
  have R32 : mR m32 rn = some x3 := f32.R (fun w => absurd w.1 (by decide)) (F31.R (fun w => w) R20)
  have hlen : (stmT (stL 0) [10 + k1, 2 + k2, k3]).length ≤ 20 := by
    have := nmT_len [10 + k1, 2 + k2, k3]
    unfold stmT
    rw [List.length_append, List.length_append, stL_fst.1]
    show 4 + (_ + 1) ≤ 20
    have h3 : 3 * [10 + k1, 2 + k2, k3].length = 9 := rfl
    omega
  have B32 : BK m32 b (bkN (10 + k1) (2 + k2) k3) c ps st (fun _ => 0) (fun _ => 0) (none, none, 0) := by
    refine ⟨f32.B (fun w => absurd w.1 (by decide)) (F31.B (fun w => w) b20), ⟨fc, f32.I (fun w => nbu c hc0 w.2) (F31.I (fun w => w) (by rw [I20]; exact c5)), fun k hk => ?_⟩, ⟨qq, f32.Q (fun w => absurd w.1 (by decide)) (F31.Q (fun w => w) (by rw [Q20]; exact p5)), fun p hp => absurd hp (Nat.not_lt_zero _)⟩, fun p hp => absurd hp (Nat.not_lt_zero _), ⟨fs, f32.I (fun w => nbu st hst0 w.2) (F31.I (fun w => w) (by rw [I20]; exact s5))⟩⟩
    rw [c5' k hk]
    have : k = 0 ∨ k = 1 ∨ k = 2 ∨ k = 3 ∨ k = 4 ∨ k = 5 := by omega
    rcases this with rfl | rfl | rfl | rfl | rfl | rfl <;> rfl
  have h32 : RSt S0 m0 bu rn S32 m32 b (stmT (stL 0) [10 + k1, 2 + k2, k3]) false false (bkN (10 + k1) (2 + k2) k3) c ps st (fun _ => 0) (fun _ => 0) (none, none, 0) := by
    rw [List.nil_append] at W32
    exact ⟨F32, W32, ⟨x3, R32⟩, RD_head (by omega) (by omega) (by omega), B32, ⟨hb, hc0, hst0, hcs, fun p hp => absurd hp (Nat.not_lt_zero _), fun p p' hp => absurd hp (Nat.not_lt_zero _)⟩, bkN_Sm (by omega) (by omega) (by omega), ⟨_, hbu⟩, ⟨x, hr⟩⟩
  refine ⟨x3, R32, by omega, h32.below (n := 2) (by decide) (by decide) (fun k4 m35 hk4 hm4 h35 => ⟨fun _ => rb106_s h35 rfl (by omega) (by omega) (hP b), fun _ => ?_⟩)⟩
  obtain ⟨x5, hx5⟩ := h35.2.2.1
  refine ⟨x5, hx5, by omega, h35.below (n := 3) (by decide) (by decide) (fun v m148 hv hm148 h148 => ?_)⟩
  have B148 := h148.2.2.2.2.1
  have own := h148.2.2.2.2.2.1
  obtain ⟨x6, hx6⟩ := h148.2.2.1
  refine ⟨_, B148.1, fun mu150 e150 => ⟨1, rfl, by decide, by omega, fun a2 ha2 mu152 e152 => ?_⟩⟩
  have BL := lim_BK (v := v) B148
  have e150' : mu150 = sB m148 b (bkN (10 + k1) (2 + k2) k3 0, bkN (10 + k1) (2 + k2) k3 1, bkN (10 + k1) (2 + k2) k3 2, nI v, some c, some ps, none, none, some st, 0) := e150
  rw [← e150'] at BL
  have F150 : Fx (exN bu rn) m0 mu150 := by rw [e150]; exact fx_toB h148.1 (Or.inr hb.2.2.2.1)
  obtain ⟨g1, gb, g2, g3⟩ := h148.2.1
  have I150 : mI mu150 bu = some (8, gb) := by rw [e150]; exact g2
  have R150 : mR mu150 rn = some x6 := by rw [e150]; exact hx6
  have ha20 : frM m0 a2 := by
    refine fx_fr F150 ha2 (fun t w => ?_)
    rcases w with ⟨-, rfl⟩ | ⟨-, rfl⟩
    · have := ha2.1; rw [I150] at this; cases this
    · have := ha2.2.2.2.2.2.1; rw [R150] at this; cases this
  have b152 : mB mu152 b = some (nI (10 + k1), nI (2 + k2), nI k3, nI v, some c, some ps, none, none, some st, 0) := by rw [e152, e150]; exact up_s
  have i152 : mI mu152 a2 = some (1, fun _ => 0) := by rw [e152]; exact up_s
  refine ⟨_, b152, 1, _, 0, i152, rfl, by decide, by decide, fun mu155 e155 => ⟨0, by omega, ?_⟩⟩
  have F155 : Fx e0 mu150 mu155 := by
    rw [e155, e152]
    exact fx_toI (fx_toI Fx.rf (Or.inr ha2.1)) (Or.inr ha2.1)
  have i155 : mI mu155 a2 = some (1, upd (fun _ => 0) 0 (nI v)) := by rw [e155]; exact up_s
  have W155 : WB S0 S32 mu155 bu (stmT (stL 0) [10 + k1, 2 + k2, k3]) := ⟨g1, gb, F155.I (fun w => w) I150, g3⟩
  refine writeAll_K_s (ns := [v]) (by decide) W155 (nbu a2 ha20) i155 (fun i hi => ?_) (show 1 ≤ 100 by decide) (by show _ + (stL 2).length + 3 * 1 + 1 ≤ 680; rw [stL_fst.2.2.1]; show _ + 5 + 3 + 1 ≤ 680; omega) (fun S156 m156 f156 W156 => ?_)
  · have : i = 0 := by have : i < 1 := hi; omega
    subst this
    exact ⟨rfl, show v < 100 by omega⟩
  have hR := RD_limit (hc := false) (v := v) h148.2.2.2.1 (by omega)
  have F156 : Fx (exN bu rn) m0 m156 := fx_app (fx_app F150 F155 (fun t a w => w.elim)) f156 (fun t a w => Or.inl (Or.inl w))
  have eP : dP (upd (bkN (10 + k1) (2 + k2) k3) 3 (nI v)) = 0 := rfl
  have B156 : BK m156 b (upd (bkN (10 + k1) (2 + k2) k3) 3 (nI v)) c ps st (fun _ => 0) (fun _ => 0) (none, none, 0) := (BL.f0 F155).fx f156 (fun w => absurd w.1 (by decide)) (fun w => nbu c hc0 w.2) (fun w => nbu st hst0 w.2) (fun w => absurd w.1 (by decide)) (fun p hp => absurd hp (Nat.not_lt_zero _))
  refine rb106_s (hl := true) ⟨F156, W156, ⟨x6, f156.R (fun w => absurd w.1 (by decide)) (F155.R (fun w => w) R150)⟩, hR, B156, ⟨hb, hc0, hst0, hcs, fun p hp => absurd hp (Nat.not_lt_zero _), fun p p' hp => absurd hp (Nat.not_lt_zero _)⟩, lim_Sm h148.2.2.2.2.2.2.1 (by omega), ⟨_, hbu⟩, ⟨x, hr⟩⟩ rfl ?_ (by omega) (hP b)
  have := nmT_len [v]
  rw [List.length_append]
  have e2 : (stmT (stL 2) [v]).length = 5 + ((nmT [v]).length + 1) := by
    unfold stmT
    rw [List.length_append, List.length_append, stL_fst.2.2.1]
    rfl
  have h3 : 3 * [v].length = 3 := rfl
  omega
end RN4
