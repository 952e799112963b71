/-! THE LAW'S EDITS: begin, setCost, remove -/
section BEG
variable {k0 k1 : Nat → Nat} {S : ivS} {m m' : Mu} {b v10 v5 v7 done k cB u : Nat} {Post : Prop} {K : ivS → Mu → Nat → Int32 → Nat → Nat → Nat → Int32 → Int32 → Prop}
theorem lbegin_s {i : Nat} {s0 v9 : Int32} {B : Bool} (h : PRE k0 k1 S m b v10 v5 v7 done) (hv9 : v9 = nI k) (hi : i ≤ dP S.1) (hs0 : s0 = if i < dP S.1 then 1 else 0) (hu : u + 17660 ≤ cB) (hK : NXT K b v5 v7 k u done) : wpL_law_b464 cB Post K S m u v5 b v7 (nI done) v9 v10 (nI i) s0 (bI B) := by
  have hO := h.1
  have hS := h.2.1
  have h16 := hO.p16
  subst hv9
  unfold wpL_law_b464
  refine ⟨fun z => ?_, fun z => ?_⟩
  · have hn : ¬ i < dP S.1 := fun y => by rw [hs0, if_pos y] at z; exact absurd z (by decide)
    unfold wpL_law_b493 wpL_law_b494
    refine ⟨fun _ => ?_, fun y => absurd z y⟩
    unfold wpL_law_b514
    refine ⟨by omega, B, rfl, fun S59 e59 r59 er => ⟨fun _ => ?_, fun y => absurd z y⟩⟩
    have es : s_begin S (nI i) B = rNo S 1 := by
      unfold s_begin
      rw [cif_n (in_no (by omega) (by omega) (by omega))]
    rw [es] at e59 er
    have e1 : S59 = S := e59
    rw [e1, er, an1_1 rfl, z]
    unfold wpL_law_b534
    refine ⟨fun y => absurd rfl y, fun _ => ?_⟩
    unfold wpL_law_b542
    exact h.stay (by omega) (fun m' hI => hK _ _ _ m' (by omega) (by omega) hI)
  · have hil : i < dP S.1 := by
      rcases Nat.lt_or_ge i (dP S.1) with y | y
      · exact y
      · rw [if_neg (by omega)] at hs0
        exact absurd hs0 z
    have e0 : s0 = 1 := by rw [hs0, if_pos hil]
    subst e0
    obtain ⟨a, w', ⟨c, ps, st, g, wd, bs, qq, hB, j3, j4⟩, j5, j6, j7⟩ := par_LB (v := bI B) hO h.2.2.2.2.2.1 hil (Or.inr (Or.inl rfl))
    have fin : ∀ had : Int32, had = bI (dB S.1 i) → wpL_law_b494 cB Post K S m u v5 b v7 (nI done) (nI k) v10 1 (nI i) 1 (bI B) had := fun had eh => by
      unfold wpL_law_b494
      refine ⟨fun y => absurd y (by decide), fun _ => ⟨_, hB.1, ps, rfl, _, qq, i, j3, rfl, hil, by omega, a, j4, _, j5, bI01, fun mu63 e63 => ?_⟩⟩
      have e63' : mu63 = sP m a (upd S.1 (11 + 34 * i + 1) (bI B) (11 + 34 * i), upd S.1 (11 + 34 * i + 1) (bI B) (11 + 34 * i + 1), upd S.1 (11 + 34 * i + 1) (bI B) (11 + 34 * i + 2), some w') := by
        rw [e63, pk_un (by omega), pk_us, pk_un (by omega)]
      rw [← e63'] at j6 j7
      unfold wpL_law_b514
      refine ⟨by omega, B, rfl, fun S59 e59 r59 er => ⟨fun y => absurd y (by decide), fun _ => ?_⟩⟩
      have es : s_begin S (nI i) B = rEd S (bI (dB S.1 i)) (upd S.1 (11 + 34 * i + 1) (bI B)) := by
        unfold s_begin
        rw [cif_y ⟨i, hil, rfl⟩, nz_nI (by omega)]
      rw [es] at e59 er
      have e1 : S59 = ivE S (upd S.1 (11 + 34 * i + 1) (bI B)) := e59
      have e2 : r59 = bI (dB S.1 i) := er.trans (an1_0 rfl)
      rw [e1, e2, eh]
      unfold wpL_law_b534
      refine ⟨fun y => absurd rfl y, fun _ => ?_⟩
      unfold wpL_law_b542
      exact h.chg j7 KX.rf j6 (begin_ok hO hil B).1 (Sm_1 hS hil (Or.inr (Or.inl rfl))) (by omega) (fun m' hI => hK _ _ _ m' (by omega) (by omega) hI)
    refine ⟨_, hB.1, ps, rfl, _, qq, i, j3, rfl, hil, by omega, a, j4, _, j5, fun y => ?_, fun y => ?_⟩
    · have y : S.1 (11 + 34 * i + 1) = nI 0 := y
      rw [hO.b hil, bI_eq0] at y
      unfold wpL_law_b493
      exact fin 0 (by rw [y]; rfl)
    · have y : ¬ S.1 (11 + 34 * i + 1) = nI 0 := y
      rw [hO.b hil, bI_eq0] at y
      have y : dB S.1 i = true := by cases hh : dB S.1 i <;> simp_all
      exact fin 1 (by rw [y]; rfl)
/-- setCost -/
theorem lcost_s {w co : Nat} {v9 : Int32} (h : PRE k0 k1 S m b v10 v5 v7 done) (hv9 : v9 = nI k) (hw : w < 7) (hc : co < 40) (hu : u + 17660 ≤ cB) (hK : NXT K b v5 v7 k u done) : ((6 : Int32) ≤ nI w → wpL_law_b1111 cB Post K S m u v5 b v7 (nI done) v9 v10 (nI w) (nI co) (0 : Int32)) ∧ (¬ (6 : Int32) ≤ nI w → wpL_law_b1111 cB Post K S m u v5 b v7 (nI done) v9 v10 (nI w) (nI co) (1 : Int32)) := by
  have hO := h.1
  have hS := h.2.1
  subst hv9
  refine ⟨fun z => ?_, fun z => ?_⟩
  · have z : 6 ≤ w := (nI_leI (by decide) (by omega)).mp (show nI 6 ≤ nI w from z)
    unfold wpL_law_b1111
    refine ⟨fun _ => ?_, fun y => absurd rfl y⟩
    unfold wpL_law_b1130
    refine ⟨fun _ => ?_, fun y => absurd rfl y⟩
    unfold wpL_law_b1147
    refine ⟨by omega, fun S1 e1 r1 er => ⟨fun _ => ?_, fun y => absurd rfl y⟩⟩
    have es : s_setCost S (nI w) (nI co) = rNo S 1 := by
      unfold s_setCost
      rw [cif_n (fun y => in_no (by omega) (by omega) z y.1)]
    rw [es] at e1 er
    have e2 : S1 = S := e1
    rw [e2, er, an1_1 rfl]
    unfold wpL_law_b1167
    refine ⟨fun y => absurd rfl y, fun _ => ?_⟩
    unfold wpL_law_b1175
    exact h.stay (by omega) (fun m' hI => hK _ _ _ m' (by omega) (by omega) hI)
  · have z : w < 6 := by
      rcases Nat.lt_or_ge w 6 with y | y
      · exact y
      · exact absurd (show nI 6 ≤ nI w from nI_le y (by omega)) z
    obtain ⟨c, ps, st, g, wd, bs, hB, h1, h2, h3, h4⟩ := h.2.2.2.2.2.1
    obtain ⟨-, ⟨fc, kc, kc'⟩, -⟩ := id hB
    unfold wpL_law_b1111
    refine ⟨fun y => absurd y (by decide), fun _ => ⟨_, hB.1, c, rfl, 6, fc, w, kc, rfl, z, by decide, ?_⟩⟩
    unfold wpL_law_b1130
    refine ⟨fun y => absurd y (by decide), fun _ => ⟨_, hB.1, c, rfl, 6, fc, w, kc, rfl, z, by decide, fun m2 e2 => ?_⟩⟩
    have B2 := cost_BK (k := w) (v := co) hB z kc (fun y => by rw [y, h2] at h1; omega) (fun p hp y => by have := (h3 p hp).2; rw [y, h1] at this; omega)
    rw [← e2] at B2
    have F2 : Fx (exK k0 k1 b) m m2 := by rw [e2]; exact Fx.sI (Or.inl (Or.inr (Or.inl ⟨rfl, Or.inl h1⟩)))
    have eP : dP (upd S.1 (5 + w) (nI co)) = dP S.1 := congrArg nz (pk_un (by omega))
    have L2 : LB k0 k1 m2 b (upd S.1 (5 + w) (nI co)) := ⟨c, ps, st, g, wd, bs, B2, h1, h2, fun p hp => h3 p (by rw [eP] at hp; exact hp), fun p p' hp hp' => h4 p p' (by rw [eP] at hp; exact hp) (by rw [eP] at hp'; exact hp')⟩
    unfold wpL_law_b1147
    refine ⟨by omega, fun S1 e1 r1 er => ⟨fun y => absurd y (by decide), fun _ => ?_⟩⟩
    have es : s_setCost S (nI w) (nI co) = rEd S (nI (dC S.1 w)) (upd S.1 (5 + w) (nI co)) := by
      unfold s_setCost
      rw [cif_y ⟨⟨w, z, rfl⟩, ⟨co, by omega, rfl⟩⟩, nz_nI (by omega), nz_nI (by omega)]
    rw [es] at e1 er
    have e3 : S1 = ivE S (upd S.1 (5 + w) (nI co)) := e1
    have e4 : r1 = nI (dC S.1 w) := er.trans (an1_0 rfl)
    rw [e3, e4, kc' w z, hO.c z]
    unfold wpL_law_b1167
    refine ⟨fun y => absurd rfl y, fun _ => ?_⟩
    unfold wpL_law_b1175
    exact h.chg F2 KX.rf L2 (cost_ok hO z (by omega)).1 (Sm_cost hS z (by omega)) (by omega) (fun m' hI => hK _ _ _ m' (by omega) (by omega) hI)
/-- remove -/
theorem lremove_n {i : Nat} {v9 : Int32} (h : PRE k0 k1 S m b v10 v5 v7 done) (hv9 : v9 = nI k) (hu : u + 17660 ≤ cB) (hK : NXT K b v5 v7 k u done) : wpL_law_b722 cB Post K S m u v5 b v7 (nI done) v9 v10 (nI i) := by
  have hO := h.1
  have h16 := hO.p16
  subst hv9
  obtain ⟨c, ps, st, g, wd, bs, hB, -⟩ := h.2.2.2.2.2.1
  obtain ⟨j1, -, ⟨qq, j3, -⟩, -⟩ := id hB
  unfold wpL_law_b722 wpL_law_b723
  have es : s_remove S (nI (dP S.1)) = rNo S 1 := by
    unfold s_remove
    rw [cif_n (in_no (by omega) (by omega) (Nat.le_refl _))]
  refine ⟨fun _ => ⟨_, j1, ps, rfl, _, qq, j3, by omega, fun S1 e1 r1 er => ⟨fun y => absurd ?_ y, fun _ => ?_⟩⟩, fun y => absurd rfl y⟩
  · rw [er, es]
    exact an1_1 rfl
  · rw [es] at e1
    have e2 : S1 = S := e1
    rw [e2]
    unfold wpL_law_b791
    exact h.stay (by omega) (fun m' hI => hK _ _ _ m' (by omega) (by omega) hI)
theorem lremove_y {i : Nat} {v9 : Int32} (h : PRE k0 k1 S m b v10 v5 v7 done) (hv9 : v9 = nI k) (hi : i < dP S.1) (hu : u + 17670 ≤ cB) (hK : NXT K b v5 v7 k u done) : wpL_law_b723 cB Post K S m u v5 b v7 (nI done) v9 v10 (nI i) (1 : Int32) := by
  have hO := h.1
  have hS := h.2.1
  have h16 := hO.p16
  subst hv9
  obtain ⟨c, ps, st, g, wd, bs, hB, h1, h2, h3, h4⟩ := h.2.2.2.2.2.1
  obtain ⟨j1, -, ⟨qq, j3, j3'⟩, j4, -⟩ := id hB
  obtain ⟨j5, fw, j6, j7⟩ := j4 i hi
  obtain ⟨k1', k2, k3, k4, k5⟩ := rm_ok hO hi
  unfold wpL_law_b723
  refine ⟨fun y => absurd y (by decide), fun _ => ⟨_, j1, ps, rfl, _, qq, i, j3, rfl, hi, by omega, _, j3' i hi, _, j5, _, rfl, _, fw, j6, _, j1, 2, by omega, ?_⟩⟩
  refine drops_s hO hB hi k3 k2 k4 k5 (Nat.le_refl _) (fun m2 ps' f2 B2 => ⟨by omega, fun S1 e1 r1 er => ?_⟩)
  have es : s_remove S (nI i) = rEd S (nI (dN S.1 i)) (rmD S.1 i) := by
    unfold s_remove
    rw [cif_y ⟨i, hi, rfl⟩, nz_nI (by omega)]
  rw [es] at e1 er
  have e3 : S1 = ivE S (rmD S.1 i) := e1
  have e4 : r1 = nI (dN S.1 i) := er.trans (an1_0 rfl)
  have F2 : Fx (exK k0 k1 b) m m2 := f2.mono (fun t a w => Or.inl w)
  have L2 : LB k0 k1 m2 b (rmD S.1 i) := by
    refine ⟨c, ps', st, _, _, bs, B2, h1, h2, fun p hp => ?_, fun p p' hp hp' he => ?_⟩
    · rw [k2] at hp
      unfold delF
      by_cases y : p < i
      · rw [if_pos y, if_pos y]; exact h3 p (by omega)
      · rw [if_neg y, if_neg y]; exact h3 (p + 1) (by omega)
    · rw [k2] at hp hp'
      unfold delF at he
      by_cases y : p < i
      · by_cases y' : p' < i
        · rw [if_pos y, if_pos y'] at he; exact h4 p p' (by omega) (by omega) he
        · rw [if_pos y, if_neg y'] at he; have := h4 p (p' + 1) (by omega) (by omega) he; omega
      · by_cases y' : p' < i
        · rw [if_neg y, if_pos y'] at he; have := h4 (p + 1) p' (by omega) (by omega) he; omega
        · rw [if_neg y, if_neg y'] at he; have := h4 (p + 1) (p' + 1) (by omega) (by omega) he; omega
  rw [e3, e4]
  refine ⟨fun y => absurd rfl y, fun _ => ?_⟩
  unfold wpL_law_b767
  refine h.chg F2 KX.rf L2 k1' (Sm_head hS k3 (by rw [k2]; have := hS.1; omega) (fun p hp => ?_)) (by omega) (fun m' hI => hK _ _ _ m' (by omega) (by omega) hI)
  rw [k2] at hp
  by_cases y : p < i
  · rw [(k4 p y).rows.2.2.2.1]; exact hS.2.2.2.2.1 p (by omega)
  · rw [(k5 p (by omega) hp).rows.2.2.2.1]; exact hS.2.2.2.2.1 (p + 1) (by omega)
end BEG
