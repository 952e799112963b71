/-! A BOOK AT RANDOM: its paragraphs -/
section RN2
variable {S0 S : ivS} {m0 mu mu' : Mu} {bu rn b : Nat} {T : List Nat} {hc hl : Bool} {dd : Nat → Int32} {c ps st : Nat} {g wd : Nat → Nat} {bs : Option Nat × Option Nat × Int32} {cB u : Nat}
/-- the paragraph that is being made -/
def PRW (m0 mu : Mu) (a w : Nat) (hd pg : Bool) (M : Nat) (ns : List Nat) (c st : Nat) (g : Nat → Nat) (dd : Nat → Int32) : Prop := mP mu a = some (bI hd, bI pg, -1, some w) ∧ (∃ f, mI mu w = some (ns.length, f) ∧ ∀ k, k < ns.length → f k = nI (ns.getD k 0)) ∧ (∀ x, x ∈ ns → 1 ≤ x ∧ x ≤ M) ∧ frM m0 a ∧ frM m0 w ∧ w ≠ c ∧ w ≠ st ∧ ∀ p, p < dP dd → g p ≠ a
theorem PRW.fx {a w : Nat} {hd pg : Bool} {M : Nat} {ns : List Nat} {e : Nat → Nat → Prop} (h : PRW m0 mu a w hd pg M ns c st g dd) (f : Fx e mu mu') (n1 : ¬ e 1 a) (n0 : ¬ e 0 w) : PRW m0 mu' a w hd pg M ns c st g dd := by
  obtain ⟨h1, ⟨fw, h2, h3⟩, h4⟩ := h
  exact ⟨f.P n1 h1, ⟨fw, f.I n0 h2, h3⟩, h4⟩
theorem RSt.parts (h : RSt S0 m0 bu rn S mu b T hc hl dd c ps st g wd bs) (f : Fx (exR bu) mu mu') : Fx (exN bu rn) m0 mu' ∧ BK mu' b dd c ps st g wd bs ∧ ∃ x, mR mu' rn = some x := by
  have own := h.2.2.2.2.2.1
  obtain ⟨y, hy⟩ := h.2.2.1
  exact ⟨fx_app h.1 f (fun t a w => Or.inl (Or.inl w)), h.2.2.2.2.1.fx f (fun w => absurd w.1 (by decide)) (fun w => h.nbu own.2.1 w.2) (fun w => h.nbu own.2.2.1 w.2) (fun w => absurd w.1 (by decide)) (fun p hp => ⟨fun w => absurd w.1 (by decide), fun w => h.nbu (own.2.2.2.2.1 p hp).2.1 w.2⟩), ⟨y, f.R (fun w => absurd w.1 (by decide)) hy⟩⟩
/-- it is written and put in -/
theorem tail_s {a w r : Nat} {hd pg : Bool} {ns : List Nat} {U : Nat} {K : ivS → Mu → Nat → Nat → Nat → Nat → Int32 → Int32 → Prop} {v4 : Int32} (h : RSt S0 m0 bu rn S mu b T hc hl dd c ps st g wd bs) (hp : PRW m0 mu a w hd pg (dW dd - dS dd) ns c st g dd) (hs : STR mu r (wdT hd pg)) (h3 : dP dd < 3) (hn : 1 ≤ ns.length ∧ ns.length ≤ 4) (hT : T.length + 40 ≤ 680) (hU : U + 2 ≤ cB) (hK : ∀ S' m' T' dd' ps' g' wd', dd' = parD dd hd pg ns.length (fun i => ns.getD i 0) → T'.length ≤ T.length + 30 → RSt S0 m0 bu rn S' m' b T' hc hl dd' c ps' st g' wd' bs → K S' m' ((U + 0) + 2) bu rn b v4 (nI (dP dd + 1))) : ∃ x86, mP mu a = some x86 ∧ ∃ a86, x86.2.2.2 = some a86 ∧ ∃ q87, U + q87 ≤ cB ∧ wpL_writeAll_D q87 S mu bu r a86 (fun S87 mu87 => ∃ x88, mB mu87 b = some x88 ∧ ∃ q90, (U + q87) + q90 ≤ cB ∧ wpX7_adds q90 mu87 b (nI (dP dd)) a (fun mu91 => K S87 mu91 ((U + q87) + q90) bu rn b v4 (nI (dP dd) + (1 : Int32)))) := by
  obtain ⟨p1, ⟨fw, p2, p3⟩, p4, p5, p6, p7, p8, p9⟩ := id hp
  have hO := RD_ok h.2.2.2.1
  have hS := h.2.2.2.2.2.2.1
  have hW17 := hS.2.2.2.2.2.1
  have hwl : (wdT hd pg).length ≤ 12 := by cases hd <;> cases pg <;> decide
  have lt100 : ∀ x, x ∈ ns → x < 100 := fun x hx => by have := (p4 x hx).2; omega
  have hge : ∀ k, k < ns.length → ns.getD k 0 ∈ ns := fun k hk => by
    rw [List.getD_eq_getElem?_getD, List.getElem?_eq_getElem hk]
    exact List.getElem_mem hk
  refine ⟨_, p1, w, rfl, 0, by omega, ?_⟩
  refine writeAll_D_s (ns := ns) hs (by omega) h.2.1 (h.nbu p6) p2 (fun k hk => ⟨p3 k hk, lt100 _ (hge k hk)⟩) (by omega) (by omega) (fun S' m' f' W' => ?_)
  obtain ⟨v, ns', en⟩ : ∃ v ns', ns = v :: ns' := by
    cases ns with
    | nil => exact absurd hn.1 (by decide)
    | cons v ns' => exact ⟨v, ns', rfl⟩
  have hRD : RD (T ++ stmT (wdT hd pg) ns) hc hl (parD dd hd pg ns.length (fun i => ns.getD i 0)) := by
    have := RD_para (hd := hd) (pg := pg) (v := v) (ns := ns') h.2.2.2.1 (by omega) (by have := hn.2; rw [en] at this; have : ns'.length + 1 ≤ 4 := this; omega) (fun x hx => by rw [← en] at hx; exact ⟨(p4 x hx).1, (p4 x hx).2, lt100 x hx⟩)
    rw [en]
    exact this
  obtain ⟨F1, B', x, hx⟩ := h.parts f'
  have hp' := hp.fx f' (fun w => absurd w.1 (by decide)) (fun w => h.nbu p6 w.2)
  obtain ⟨r1, ⟨fr, r2, r3⟩, -⟩ := id hp'
  have own := h.2.2.2.2.2.1
  refine ⟨_, B'.1, 2, hU, ?_⟩
  have hlo : ∀ j, j < 11 + 34 * dP dd → j ≠ 4 → parD dd hd pg ns.length (fun i => ns.getD i 0) j = dd j := fun j h1 h2 => par_lo h1 h2
  obtain ⟨n0, n1, n2, n3, n4⟩ := par_new (dd := dd) (hd := hd) (pg := pg) (n := ns.length) (f := fun i => ns.getD i 0) (by omega)
  have eP := par_P (dd := dd) (hd := hd) (pg := pg) (n := ns.length) (f := fun i => ns.getD i 0) (by omega)
  refine adds_s (w := w) (d' := parD dd hd pg ns.length (fun i => ns.getD i 0)) hO B' (Nat.le_refl _) (fun j h1 h2 => hlo j (by omega) h2) eP (fun q hq k hk => hlo _ (by omega) (by omega)) (fun q h1 h2 => absurd h2 (by omega)) (by rw [n0, n1, n2]; exact r1) ⟨fr, by rw [n3]; exact r2, fun k hk => by rw [n3] at hk; rw [n4 k hk]; exact r3 k hk⟩ (Nat.le_refl _) (fun m2 ps' f2 B2 => ?_)
  rw [li1, nI_add]
  have own2 : OWN m0 b c st (insF g (dP dd) a) (insF wd (dP dd) w) (parD dd hd pg ns.length (fun i => ns.getD i 0)) := by
    obtain ⟨o1, o2, o3, o4, o5, o6⟩ := own
    refine ⟨o1, o2, o3, o4, fun p hpp => ?_, fun p p' h1 h2 he => ?_⟩
    · rw [eP] at hpp
      unfold insF
      by_cases y : p < dP dd
      · rw [if_pos y, if_pos y]; exact o5 p y
      · rw [if_neg y, if_neg y, if_pos (by omega), if_pos (by omega)]
        exact ⟨p5, p6, p7, p8⟩
    · rw [eP] at h1 h2
      unfold insF at he
      by_cases y : p < dP dd
      · by_cases y' : p' < dP dd
        · rw [if_pos y, if_pos y'] at he
          exact o6 p p' y y' he
        · rw [if_pos y, if_neg y', if_pos (by omega)] at he
          exact absurd he (p9 p y)
      · by_cases y' : p' < dP dd
        · rw [if_neg y, if_pos (by omega), if_pos y'] at he
          exact absurd he.symm (p9 p' y')
        · omega
  refine hK S' m2 _ _ ps' _ _ rfl ?_ ⟨fx_app F1 f2 (fun t x w => Or.inr (by rw [w.2]; exact own.1)), W'.fx f2 (fun w => absurd w.1 (by decide)), ⟨x, f2.R (fun w => absurd w.1 (by decide)) hx⟩, hRD, B2, own2, par_Sm hS h3 (by omega), h.2.2.2.2.2.2.2⟩
  have := nmT_len ns
  rw [List.length_append]
  unfold stmT
  rw [List.length_append, List.length_append]
  show T.length + ((wdT hd pg).length + ((nmT ns).length + 1)) ≤ _
  omega
/-- its name is joined, it is written, it is put in -/
theorem name_s {a w : Nat} {hd pg : Bool} {ns : List Nat} {v7 : Int32} {K : ivS → Mu → Nat → Nat → Nat → Nat → Int32 → Int32 → Prop} {Post : Nat → ivS → Mu → Prop} {v4 : Int32} {n : Nat} (h : RSt S0 m0 bu rn S mu b T hc hl dd c ps st g wd bs) (hp : PRW m0 mu a w hd pg (dW dd - dS dd) ns c st g dd) (h3 : dP dd < 3) (hn : 1 ≤ ns.length ∧ ns.length ≤ 4) (hT : T.length + 40 ≤ 680) (hU : u + 7 ≤ cB) (h7 : v7 = nI 0) (hK : ∀ S' m' T' dd' ps' g' wd', dd' = parD dd hd pg ns.length (fun i => ns.getD i 0) → T'.length ≤ T.length + 30 → RSt S0 m0 bu rn S' m' b T' hc hl dd' c ps' st g' wd' bs → K S' m' (u + 7) bu rn b v4 (nI (dP dd + 1))) : wpL_randomBook_L177 cB Post K (n + 1) S mu u bu rn b v4 (nI (dP dd)) a v7 := by
  subst h7
  unfold wpL_randomBook_L177
  refine ⟨fun _ => ⟨by omega, fun sb hsb mu70 e70 => ⟨2, by omega, ?_⟩⟩, fun z => absurd (show nI 0 ≤ nI 0 by decide) z⟩
  have F70 : Fx e0 mu mu70 := by rw [e70]; exact fx_toG Fx.rf hsb.2.2.2.2.2.2.2.2
  refine bld_init (m0 := mu) (e := e0) (x := (none, 0, 0, 0)) F70 hsb.2.2.2.2.2.2.2.2 (by rw [e70]; exact up_s) rfl (Nat.le_refl _) (fun m1 f1 B1 t1 => ?_)
  have fin : ∀ (U1 U2 : Nat) (m2 : Mu) (r : Nat), U1 = u + 5 → U2 = u + 7 → Fx e0 mu m2 → STR m2 r (wdT hd pg) → ∃ x86, mP m2 a = some x86 ∧ ∃ a86, x86.2.2.2 = some a86 ∧ ∃ q87, U1 + q87 ≤ cB ∧ wpL_writeAll_D q87 S m2 bu r a86 (fun S87 mu87 => ∃ x88, mB mu87 b = some x88 ∧ ∃ q90, (U1 + q87) + q90 ≤ cB ∧ wpX7_adds q90 mu87 b (nI (dP dd)) a (fun mu91 => K S87 mu91 ((U1 + q87) + q90) bu rn b v4 (nI (dP dd) + (1 : Int32)))) := fun U1 U2 m2 r eU1 eU2 f2 s2 => by
    subst eU1
    obtain ⟨y, hy⟩ := h.2.2.1
    have h2 := h.move f2 (fx_app h.1 f2 (fun t a w => w.elim)) ⟨y, f2.R (fun w => w) hy⟩ (fun w => w) (fun w => w) (fun w => w) (fun w => w) (fun w => w) (fun p _ => ⟨fun w => w, fun w => w⟩)
    exact tail_s h2 (hp.fx f2 (fun w => w) (fun w => w)) s2 h3 hn hT (by omega) hK
  have x1 := f1.P (fun w => w) hp.1
  have hd0 : ∀ {B : Bool}, bI B = 0 ↔ B = false := fun {B} => by cases B <;> decide
  have e31 : (stL 3).length = 4 := by decide
  have e51 : (stL 5).length = 7 := by decide
  have e81 : (stL 8).length = 5 := by decide
  have e91 : (stL 9).length = 0 := by decide
  obtain ⟨ga, gh, gf, G1, -⟩ := id B1
  refine ⟨_, x1, fun z => ⟨_, G1, by omega, ?_⟩, fun z => ⟨_, G1, by omega, ?_⟩⟩
  · have z : hd = false := hd0.mp z
    subst z
    refine bld_app (m0 := mu) (e := e0) (by decide) f1 hsb.2.2.2.2.2.2.2.2 B1 t1 (by rw [e31]; decide) (fun m2 f2 B2 t2 => ?_)
    have x2 := f2.P (fun w => w) hp.1
    obtain ⟨ga2, gh2, gf2, G2, -⟩ := id B2
    refine ⟨_, x2, fun y => ⟨_, G2, by omega, ?_⟩, fun y => ⟨_, G2, by omega, ?_⟩⟩
    · have y : pg = false := hd0.mp y
      subst y
      refine bld_app (m0 := mu) (e := e0) (by decide) f2 hsb.2.2.2.2.2.2.2.2 B2 t2 (by simp only [List.length_append, List.length_nil, e31, e91]; decide) (fun m3 f3 B3 t3 => ?_)
      obtain ⟨ga3, gh3, gf3, G3, -⟩ := id B3
      refine ⟨_, G3, 2, by omega, bld_str f3 B3 (by simp only [List.length_append, List.length_nil, e31, e91]; decide) (Nat.le_refl _) (fun m4 r f4 s4 => ?_)⟩
      exact fin _ _ m4 r (by omega) rfl f4 s4
    · have y : pg = true := by cases pg; exact absurd rfl y; rfl
      subst y
      refine bld_app (m0 := mu) (e := e0) (by decide) f2 hsb.2.2.2.2.2.2.2.2 B2 t2 (by simp only [List.length_append, List.length_nil, e31, e81]; decide) (fun m3 f3 B3 t3 => ?_)
      obtain ⟨ga3, gh3, gf3, G3, -⟩ := id B3
      refine ⟨_, G3, 2, by omega, bld_str f3 B3 (by simp only [List.length_append, List.length_nil, e31, e81]; decide) (Nat.le_refl _) (fun m4 r f4 s4 => ?_)⟩
      exact fin _ _ m4 r (by omega) rfl f4 s4
  · have z : hd = true := by cases hd; exact absurd rfl z; rfl
    subst z
    refine bld_app (m0 := mu) (e := e0) (by decide) f1 hsb.2.2.2.2.2.2.2.2 B1 t1 (by rw [e51]; decide) (fun m2 f2 B2 t2 => ?_)
    have x2 := f2.P (fun w => w) hp.1
    obtain ⟨ga2, gh2, gf2, G2, -⟩ := id B2
    refine ⟨_, x2, fun y => ⟨_, G2, by omega, ?_⟩, fun y => ⟨_, G2, by omega, ?_⟩⟩
    · have y : pg = false := hd0.mp y
      subst y
      refine bld_app (m0 := mu) (e := e0) (by decide) f2 hsb.2.2.2.2.2.2.2.2 B2 t2 (by simp only [List.length_append, List.length_nil, e51, e91]; decide) (fun m3 f3 B3 t3 => ?_)
      obtain ⟨ga3, gh3, gf3, G3, -⟩ := id B3
      refine ⟨_, G3, 2, by omega, bld_str f3 B3 (by simp only [List.length_append, List.length_nil, e51, e91]; decide) (Nat.le_refl _) (fun m4 r f4 s4 => ?_)⟩
      exact fin _ _ m4 r (by omega) rfl f4 s4
    · have y : pg = true := by cases pg; exact absurd rfl y; rfl
      subst y
      refine bld_app (m0 := mu) (e := e0) (by decide) f2 hsb.2.2.2.2.2.2.2.2 B2 t2 (by simp only [List.length_append, List.length_nil, e51, e81]; decide) (fun m3 f3 B3 t3 => ?_)
      obtain ⟨ga3, gh3, gf3, G3, -⟩ := id B3
      refine ⟨_, G3, 2, by omega, bld_str f3 B3 (by simp only [List.length_append, List.length_nil, e51, e81]; decide) (Nat.le_refl _) (fun m4 r f4 s4 => ?_)⟩
      exact fin _ _ m4 r (by omega) rfl f4 s4
end RN2
