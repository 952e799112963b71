/-! A BOOK AT RANDOM: words, paragraphs, head -/
section RN3
variable {S0 S : ivS} {m0 mu mu' : Mu} {bu rn b : Nat} {T : List Nat} {hc hl : Bool} {dd : Nat → Int32} {c ps st : Nat} {g wd : Nat → Nat} {bs : Option Nat × Option Nat × Int32} {cB u : Nat}
/-- words at random -/
theorem words_L {a : Nat} {hd pg : Bool} {K : ivS → Mu → Nat → Nat → Nat → Nat → Int32 → Int32 → Prop} {Post : Nat → ivS → Mu → Prop} {v4 : Int32} (h3 : dP dd < 3) (hT : T.length + 40 ≤ 680) : ∀ (r : Nat) (u : Nat) (mu : Mu) (w : Nat) (ns : List Nat), RSt S0 m0 bu rn S mu b T hc hl dd c ps st g wd bs → PRW m0 mu a w hd pg (dW dd - dS dd) ns c st g dd → 1 ≤ ns.length + r → ns.length + r ≤ 4 → u + r + 7 ≤ cB → (∀ S' m' T' dd' ps' g' wd' n', n' ≤ 4 → (∃ f, dd' = parD dd hd pg n' f) → T'.length ≤ T.length + 30 → RSt S0 m0 bu rn S' m' b T' hc hl dd' c ps' st g' wd' bs → K S' m' (u + r + 7) bu rn b v4 (nI (dP dd + 1))) → wpL_randomBook_L177 cB Post K (r + 1) S mu u bu rn b v4 (nI (dP dd)) a (nI r)
  | 0, u, mu, w, ns, h, hp, h1, h4, hu, hK => by
    exact name_s h hp h3 ⟨h1, h4⟩ hT hu rfl (fun S' m' T' dd' ps' g' wd' e h5 h6 => hK S' m' T' dd' ps' g' wd' ns.length h4 ⟨_, e⟩ h5 h6)
  | r + 1, u, mu, w, ns, h, hp, h1, h4, hu, hK => by
    have hO := RD_ok h.2.2.2.1
    have hS := h.2.2.2.2.2.2.1
    have own := h.2.2.2.2.2.1
    obtain ⟨p1, ⟨fw, p2, p3⟩, p4, p5, p6, p7, p8, p9⟩ := id hp
    have hw10 := hO.w10
    have hs4 := hS.2.2.2.2.2.2
    have hw17 := hS.2.2.2.2.2.1
    have hB := h.2.2.2.2.1
    obtain ⟨x, hx⟩ := h.2.2.1
    unfold wpL_randomBook_L177
    refine ⟨fun z => absurd ((nI_leI (by omega) (by decide)).mp (show nI (r + 1) ≤ nI 0 from z)) (by omega), fun _ => ⟨_, p1, w, rfl, _, hB.1, _, hB.1, x, hx, by omega, ?_⟩⟩
    have ed : dd 0 - dd 2 = nI (dW dd - dS dd) := by rw [hO.w, hO.s, sm_sub (by omega)]
    show wpX10_below mu rn (dd 0 - dd 2) _
    rw [ed]
    refine h.below (by omega) (by omega) (fun k m1 hk hm1 h' => ⟨1, by omega, ?_⟩)
    have p2' : mI m1 w = some (ns.length, fw) := by
      obtain ⟨x', e⟩ := hm1
      rw [e]
      exact p2
    have p1' : mP m1 a = some (bI hd, bI pg, -1, some w) := by
      obtain ⟨x', e⟩ := hm1
      rw [e]
      exact p1
    refine with_s (by omega) (by omega) p2' (fun q f' hq f1 f2 => ⟨(bI hd, bI pg, -1, some w), p1', fun m3 e3 => ?_⟩)
    have hq0 := h'.fr hq
    have h2 := h'.rowI (a := q) hq.1 hq0 (ns.length + 1, f')
    have em : nI (r + 1) + (-1 : Int32) = nI r := by
      rw [show ((-1 : Int32)) = - 1 from rfl, ← Int32.sub_eq_add_neg, li1, sm_sub (by omega), Nat.add_sub_cancel]
    rw [em]
    have nc : q ≠ c := fun z => by
      obtain ⟨-, ⟨fc, kc, -⟩, -⟩ := h'.2.2.2.2.1
      rw [← z, hq.1] at kc
      cases kc
    have nst : q ≠ st := fun z => by
      obtain ⟨-, -, -, -, ft, kt⟩ := h'.2.2.2.2.1
      rw [← z, hq.1] at kt
      cases kt
    have hrr := h2.2.2.1
    have h3' : RSt S0 m0 bu rn S m3 b T hc hl dd c ps st g wd bs := by
      rw [e3]
      exact h2.move (e := fun t x => t = 1 ∧ x = a) (Fx.sP (Or.inl ⟨rfl, rfl⟩)) (fx_toP h2.1 (Or.inr p5.2.2.1)) hrr (fun w => absurd w.1 (by decide)) (fun w => absurd w.1 (by decide)) (fun w => absurd w.1 (by decide)) (fun w => absurd w.1 (by decide)) (fun w => absurd w.1 (by decide)) (fun p hp => ⟨fun w => p9 p hp w.2, fun w => absurd w.1 (by decide)⟩)
    have hp' : PRW m0 m3 a q hd pg (dW dd - dS dd) (ns ++ [1 + k]) c st g dd := by
      refine ⟨by rw [e3]; exact up_s, ⟨f', ?_, fun i hi => ?_⟩, fun y hy => ?_, p5, hq0, nc, nst, p9⟩
      · rw [e3, List.length_append]
        exact up_s
      · rw [List.length_append] at hi
        have hi : i < ns.length + 1 := hi
        rw [gd_app]
        by_cases y : i = ns.length
        · rw [if_pos y, y, f2, li1, nI_add]
        · rw [if_neg y, f1 i (by omega)]
          exact p3 i (by omega)
      · rcases List.mem_append.mp hy with z | z
        · exact p4 y z
        · rw [List.mem_singleton.mp z]
          omega
    have ln : (ns ++ [1 + k]).length = ns.length + 1 := by rw [List.length_append]; rfl
    refine words_L h3 hT r (u + 1) m3 q (ns ++ [1 + k]) h3' hp' (by omega) (by omega) (by omega) (fun S' m' T' dd' ps' g' wd' n' j1 j2 j3 j4 => ?_)
    have := hK S' m' T' dd' ps' g' wd' n' j1 j2 j3 j4
    rw [show u + 1 + r + 7 = u + (r + 1) + 7 by omega]
    exact this
/-- paragraphs at random -/
theorem paras_L {Post : Nat → ivS → Mu → Prop} {many : Nat} (hm : many ≤ 3) (hP : FIN S0 m0 bu rn b Post) : ∀ (r : Nat) (u : Nat) (S : ivS) (mu : Mu) (T : List Nat) (dd : Nat → Int32) (ps : Nat) (g wd : Nat → Nat), RSt S0 m0 bu rn S mu b T false hl dd c ps st g wd bs → dP dd + r = many → T.length + 40 + 30 * r ≤ 680 → u + 16 * r + 1 ≤ cB → wpL_randomBook_L116 cB Post (r + 1) S mu u bu rn b (nI many) (nI (dP dd))
  | r, u, S, mu, T, dd, ps, g, wd, h, hr, hT, hu => by
    obtain ⟨x, hx⟩ := h.2.2.1
    have own := h.2.2.2.2.2.1
    have hB := h.2.2.2.2.1
    unfold wpL_randomBook_L116
    refine ⟨fun z => ⟨x, hx, by omega, ?_⟩, fun z => ?_⟩
    · have e : dP dd = many := by
        have := (nI_leI (by omega) (by omega)).mp z
        omega
      refine h.below (n := 2) (by decide) (by decide) (fun k m1 hk hm1 h' => ⟨fun _ => ?_, fun _ => ⟨7, ?_⟩⟩)
      · rw [← e]
        exact b334_s h' (by omega) hP
      · rw [← e]
        obtain ⟨-, ⟨fc, kc, kc'⟩, -⟩ := h'.2.2.2.2.1
        exact costs_L h' (by omega) (by omega) hP 6 0 rfl m1 (fun _ => 0) fc Fx.rf kc (fun i hi => absurd hi (Nat.not_lt_zero _)) h'.2.2.1
    · have hlt : dP dd < many := by
        rcases Nat.lt_or_ge (dP dd) many with w | w
        · exact w
        · exact absurd (nI_le w (by omega)) z
      cases r with
      | zero => exact absurd hr (by omega)
      | succ r =>
        refine ⟨by omega, fun a ha mu52 e52 => ⟨1, by omega, para_init (x := (0, 0, 0, none)) (by rw [e52]; exact up_s) (Nat.le_refl _) (fun m1 w f1 hw p1 w1 fr1 => ?_)⟩⟩
        have ha0 := h.fr ha
        have F52 : Fx (fun k x => k = 1 ∧ x = a) mu mu52 := by rw [e52]; exact Fx.sP (Or.inr ha.2.2.1)
        have hw0 : frM m0 w := h.fr (by rw [e52] at hw; exact (fr_P hw).1)
        have hwmu : mI mu w = none := by have := hw.1; rw [e52] at this; exact this
        have F1 := F52.trans f1
        have gne : ∀ p, p < dP dd → g p ≠ a := fun p hp e => by
          have := (hB.2.2.2.1 p hp).1
          rw [e, ha.2.2.1] at this
          cases this
        have h1 : RSt S0 m0 bu rn S m1 b T false hl dd c ps st g wd bs := h.move F1 (fx_app h.1 F1 (fun t x w => Or.inr (by rw [w.2]; exact ha0))) ⟨x, F1.R (fun w => absurd w.1 (by decide)) hx⟩ (fun w => absurd w.1 (by decide)) (fun w => absurd w.1 (by decide)) (fun w => absurd w.1 (by decide)) (fun w => absurd w.1 (by decide)) (fun w => absurd w.1 (by decide)) (fun p hp => ⟨fun w => gne p hp w.2, fun w => absurd w.1 (by decide)⟩)
        obtain ⟨fw, w1⟩ := w1
        have nwc : w ≠ c := fun z => by
          obtain ⟨-, ⟨fc, kc, -⟩, -⟩ := hB
          rw [← z, hwmu] at kc
          cases kc
        have nwst : w ≠ st := fun z => by
          obtain ⟨-, -, -, -, ft, kt⟩ := hB
          rw [← z, hwmu] at kt
          cases kt
        obtain ⟨x1, hx1⟩ := h1.2.2.1
        refine ⟨x1, hx1, by omega, h1.below (n := 4) (by decide) (by decide) (fun k2 m2 hk2 hm2 h2 => ?_)⟩
        obtain ⟨y2, e2⟩ := hm2
        have p2 : mP m2 a = some (0, 0, -1, some w) := by rw [e2]; exact p1
        have w2 : mI m2 w = some (0, fw) := by rw [e2]; exact w1
        have pset : ∀ (mm : Mu) (y : ceP), RSt S0 m0 bu rn S mm b T false hl dd c ps st g wd bs → RSt S0 m0 bu rn S (sP mm a y) b T false hl dd c ps st g wd bs := fun mm y hh => by
          obtain ⟨z, hz⟩ := hh.2.2.1
          exact hh.move (e := fun t x => t = 1 ∧ x = a) (Fx.sP (Or.inl ⟨rfl, rfl⟩)) (fx_toP hh.1 (Or.inr ha0.2.2.1)) ⟨z, hz⟩ (fun w => absurd w.1 (by decide)) (fun w => absurd w.1 (by decide)) (fun w => absurd w.1 (by decide)) (fun w => absurd w.1 (by decide)) (fun w => absurd w.1 (by decide)) (fun p hp => ⟨fun w => gne p hp w.2, fun w => absurd w.1 (by decide)⟩)
        have b165 : ∀ (mm : Mu) (hd pg : Bool), RSt S0 m0 bu rn S mm b T false hl dd c ps st g wd bs → mP mm a = some (bI hd, 0, -1, some w) → mI mm w = some (0, fw) → wpL_randomBook_b165 cB Post (wpL_randomBook_L116 cB Post (r + 1)) S mm ((u + 1) + 1) bu rn b (nI many) (nI (dP dd)) a a (bI pg) := fun mm hd pg hh hpp hww => by
          unfold wpL_randomBook_b165
          refine ⟨_, hpp, bI01, fun m5 e5 => ?_⟩
          have h5 : RSt S0 m0 bu rn S m5 b T false hl dd c ps st g wd bs := by rw [e5]; exact pset mm _ hh
          obtain ⟨x5, hx5⟩ := h5.2.2.1
          refine ⟨x5, hx5, by omega, h5.below (n := 4) (by decide) (by decide) (fun k6 m6 hk6 hm6 h6 => ⟨(1 + k6) + 1, ?_⟩)⟩
          obtain ⟨y6, e6⟩ := hm6
          rw [li1, nI_add]
          refine words_L (hd := hd) (pg := pg) (by omega) (by omega) (1 + k6) ((u + 1) + 1) m6 w [] h6 ⟨by rw [e6, e5]; exact up_s, ⟨fw, by rw [e6, e5]; exact hww, fun i hi => absurd hi (Nat.not_lt_zero _)⟩, fun y hy => (by cases hy), ha0, hw0, nwc, nwst, gne⟩ (by show 1 ≤ 0 + (1 + k6); omega) (by show 0 + (1 + k6) ≤ 4; omega) (by omega) (fun S' m' T' dd' ps' g' wd' n' j1 j2 j3 j4 => ?_)
          obtain ⟨ff, j2⟩ := j2
          have eP : dP dd' = dP dd + 1 := by rw [j2]; exact par_P (by omega)
          rw [← eP]
          exact paras_L hm hP r _ S' m' T' dd' ps' g' wd' j4 (by omega) (by omega) (by omega)
        have b147 : ∀ (hd : Bool), wpL_randomBook_b147 cB Post (wpL_randomBook_L116 cB Post (r + 1)) S m2 ((u + 1) + 1) bu rn b (nI many) (nI (dP dd)) a a (bI hd) := fun hd => by
          unfold wpL_randomBook_b147
          refine ⟨_, p2, bI01, fun m3 e3 => ?_⟩
          have h3 : RSt S0 m0 bu rn S m3 b T false hl dd c ps st g wd bs := by rw [e3]; exact pset m2 _ h2
          obtain ⟨x3, hx3⟩ := h3.2.2.1
          refine ⟨x3, hx3, by omega, h3.below (n := 5) (by decide) (by decide) (fun k4 m4 hk4 hm4 h4 => ?_)⟩
          obtain ⟨y4, e4⟩ := hm4
          have p4 : mP m4 a = some (bI hd, 0, -1, some w) := by rw [e4, e3]; exact up_s
          have w4 : mI m4 w = some (0, fw) := by rw [e4, e3]; exact w2
          exact ⟨fun _ => b165 m4 hd false h4 p4 w4, fun _ => b165 m4 hd true h4 p4 w4⟩
        exact ⟨fun _ => b147 false, fun _ => b147 true⟩
end RN3
