/-! THE LAW'S EDITS: fix, begin -/
def NXT (K : ivS → Mu → Nat → Int32 → Nat → Nat → Nat → Int32 → Int32 → Prop) (b v5 v7 k u done : Nat) : Prop := ∀ (u' done' : Nat) (S' : ivS) (m' : Mu), u' ≤ u + 17660 → done' ≤ done + 1 → INV S' m' b v5 v7 done' → K S' m' u' 1 v5 b v7 (nI done') (nI (k + 1))
section FIX
variable {k0 k1 : Nat → Nat} {S : ivS} {m m' : Mu} {b v10 v5 v7 done k cB u : Nat} {Post : Prop} {K : ivS → Mu → Nat → Int32 → Nat → Nat → Nat → Int32 → Int32 → Prop}
/-- one number of a paragraph's cell -/
theorem par_LB {i x : Nat} {v : Int32} (hO : OkB S.1) (hL : LB k0 k1 m b S.1) (hi : i < dP S.1) (hx : x = 0 ∨ x = 1 ∨ x = 2) : ∃ a w, (∃ c ps st g wd bs q, BK m b S.1 c ps st g wd bs ∧ mQ m ps = some (2, dP S.1, q) ∧ q i = some a) ∧ mP m a = some (S.1 (11 + 34 * i), S.1 (11 + 34 * i + 1), S.1 (11 + 34 * i + 2), some w) ∧ LB k0 k1 (sP m a (upd S.1 (11 + 34 * i + x) v (11 + 34 * i), upd S.1 (11 + 34 * i + x) v (11 + 34 * i + 1), upd S.1 (11 + 34 * i + x) v (11 + 34 * i + 2), some w)) b (upd S.1 (11 + 34 * i + x) v) ∧ Fx (exK k0 k1 b) m (sP m a (upd S.1 (11 + 34 * i + x) v (11 + 34 * i), upd S.1 (11 + 34 * i + x) v (11 + 34 * i + 1), upd S.1 (11 + 34 * i + x) v (11 + 34 * i + 2), some w)) := by
  obtain ⟨c, ps, st, g, wd, bs, hB, h1, h2, h3, h4⟩ := hL
  obtain ⟨-, -, ⟨q, j3, j3'⟩, j4, -⟩ := id hB
  obtain ⟨j5, fw, j6, j7⟩ := j4 i hi
  have F : Fx (fun t a => t = 1 ∧ a = g i) m (sP m (g i) (upd S.1 (11 + 34 * i + x) v (11 + 34 * i), upd S.1 (11 + 34 * i + x) v (11 + 34 * i + 1), upd S.1 (11 + 34 * i + x) v (11 + 34 * i + 2), some (wd i))) := Fx.sP (Or.inl ⟨rfl, rfl⟩)
  have en : dN (upd S.1 (11 + 34 * i + x) v) i = dN S.1 i := congrArg nz (pk_un (by omega))
  have eP : dP (upd S.1 (11 + 34 * i + x) v) = dP S.1 := congrArg nz (pk_un (by omega))
  refine ⟨g i, wd i, ⟨c, ps, st, g, wd, bs, q, hB, j3, j3' i hi⟩, j5, ⟨c, ps, st, g, _, bs, par_BK hO hB hi (fun j hj => pk_un (by omega)) (fun q hq hne t ht => pk_un (by omega)) F h4 up_s ⟨fw, by rw [en]; exact j6, fun t ht => by rw [en] at ht; rw [pk_un (by have := hO.n30 hi; omega)]; exact j7 t ht⟩, h1, h2, fun p hp => ?_, fun p p' hp hp' => h4 p p' (by rw [eP] at hp; exact hp) (by rw [eP] at hp'; exact hp')⟩, F.mono (fun t a w => Or.inr (Or.inr ⟨w.1, by rw [w.2]; exact (h3 i hi).1⟩))⟩
  rw [eP] at hp
  refine ⟨(h3 p hp).1, ?_⟩
  show k0 (if p = i then wd i else wd p) = 0
  by_cases y : p = i
  · rw [if_pos y]; exact (h3 i hi).2
  · rw [if_neg y]; exact (h3 p hp).2
theorem Sm_1 {i x : Nat} {v : Int32} (hS : Sm S.1) (hi : i < dP S.1) (hx : x = 0 ∨ x = 1 ∨ x = 2) : Sm (upd S.1 (11 + 34 * i + x) v) :=
  Sm_par (p := i) hS (fun j hj => pk_un (by omega)) (fun q hq hne t ht => pk_un (by omega)) (by rw [show dN (upd S.1 (11 + 34 * i + x) v) i = dN S.1 i from congrArg nz (pk_un (by omega))]; exact hS.2.2.2.2.1 i hi)
theorem fix_408n {i : Nat} {v11 v13 v15 x : Int32} {v9 : Int32} (h : PRE k0 k1 S m b v10 v5 v7 done) (hv9 : v9 = nI k) (h11 : v11 = 0) (hu : u + 17660 ≤ cB) (hK : NXT K b v5 v7 k u done) (hr : (v13 = 0 ∧ s_fix S (nI i) v15 = rNo S 1) ∨ (¬ v13 = 0 ∧ s_fix S (nI i) v15 = rNo S 2)) : wpL_law_b408 cB Post K S m u v5 b v7 (nI done) v9 v10 v11 (nI i) v13 v15 x := by
  subst h11
  subst hv9
  have fin : ∀ r : Int32, wpL_law_b438 cB Post K S m (u + 2) v5 b v7 (nI done) (nI k) v10 0 r r := fun r => by
    unfold wpL_law_b438
    refine ⟨fun z => absurd rfl z, fun _ => ?_⟩
    unfold wpL_law_b446
    exact h.stay (by omega) (fun m' hI => hK _ _ _ m' (by omega) (by omega) hI)
  unfold wpL_law_b408
  refine ⟨by omega, fun S39 e39 r39 er => ⟨fun _ => ⟨fun z => ?_, fun z => ?_⟩, fun z => absurd rfl z⟩⟩
  · rcases hr with ⟨-, e⟩ | ⟨w, -⟩
    · rw [e] at e39 er
      have e1 : S39 = S := e39
      rw [e1, er, an2_1 rfl]
      exact fin _
    · exact absurd z w
  · rcases hr with ⟨w, -⟩ | ⟨-, e⟩
    · exact absurd w z
    · rw [e] at e39 er
      have e1 : S39 = S := e39
      rw [e1, er, an2_2 rfl]
      exact fin _
theorem lfix_s {i q : Nat} {s0 : Int32} {v9 : Int32} (h : PRE k0 k1 S m b v10 v5 v7 done) (hv9 : v9 = nI k) (hi : i ≤ dP S.1) (hs0 : s0 = if i < dP S.1 then 1 else 0) (hq : q < 5) (hu : u + 17660 ≤ cB) (hK : NXT K b v5 v7 k u done) : (s0 = 0 → wpL_law_b365 cB Post K S m u v5 b v7 (nI done) v9 v10 (nI i) s0 (nI q - (1 : Int32))) ∧ (¬ s0 = 0 → ((3 : Int32) ≤ (nI q - (1 : Int32)) → wpL_law_b365 cB Post K S m u v5 b v7 (nI done) v9 v10 (nI i) s0 (nI q - (1 : Int32))) ∧ (¬ (3 : Int32) ≤ (nI q - (1 : Int32)) → wpL_law_b366 cB Post K S m u v5 b v7 (nI done) v9 v10 (nI i) s0 (nI q - (1 : Int32)) (1 : Int32))) := by
  have hO := h.1
  have hS := h.2.1
  have h16 := hO.p16
  have inF_q : ∀ q, q < 5 → (inF (nI q - 1) ↔ q < 4) ∧ ((3 : Int32) ≤ nI q - 1 ↔ q = 4) := by
    intro q hq
    have : q = 0 ∨ q = 1 ∨ q = 2 ∨ q = 3 ∨ q = 4 := by omega
    rcases this with rfl | rfl | rfl | rfl | rfl
    · exact ⟨⟨fun _ => by decide, fun _ => Or.inl (by decide)⟩, by decide⟩
    · exact ⟨⟨fun _ => by decide, fun _ => Or.inr (Or.inl (by decide))⟩, by decide⟩
    · exact ⟨⟨fun _ => by decide, fun _ => Or.inr (Or.inr (Or.inl (by decide)))⟩, by decide⟩
    · exact ⟨⟨fun _ => by decide, fun _ => Or.inr (Or.inr (Or.inr (by decide)))⟩, by decide⟩
    · refine ⟨⟨fun w => ?_, fun w => absurd w (by decide)⟩, by decide⟩
      rcases w with w | w | w | w <;> exact absurd w (by decide)
  refine ⟨fun z => ?_, fun z => ⟨fun w => ?_, fun w => ?_⟩⟩
  · have hn : ¬ i < dP S.1 := fun y => by rw [hs0, if_pos y] at z; exact absurd z (by decide)
    unfold wpL_law_b365 wpL_law_b366
    refine ⟨fun _ => ?_, fun y => absurd z y⟩
    unfold wpL_law_b388
    refine ⟨fun _ => fix_408n h hv9 rfl hu hK (Or.inl ⟨z, ?_⟩), fun y => absurd rfl y⟩
    unfold s_fix
    rw [cif_n (in_no (by omega) (by omega) (by omega))]
  · have hil : i < dP S.1 := by
      rcases Nat.lt_or_ge i (dP S.1) with y | y
      · exact y
      · rw [if_neg (by omega)] at hs0
        exact absurd hs0 z
    have q4 := (inF_q q hq).2.mp w
    obtain ⟨a, w', ⟨c, ps, st, g, wd, bs, qq, hB, j3, j4⟩, j5, -, -⟩ := par_LB (v := 0) hO h.2.2.2.2.2.1 hil (Or.inl rfl)
    unfold wpL_law_b365 wpL_law_b366
    refine ⟨fun y => absurd y z, fun _ => ⟨_, hB.1, ps, rfl, _, qq, i, j3, rfl, hil, by omega, a, j4, _, j5, ?_⟩⟩
    unfold wpL_law_b388
    refine ⟨fun _ => fix_408n h hv9 rfl hu hK (Or.inr ⟨z, ?_⟩), fun y => absurd rfl y⟩
    unfold s_fix
    rw [cif_y ⟨i, hil, rfl⟩, cif_n (fun y => by have := (inF_q q hq).1.mp y; omega)]
  · have hil : i < dP S.1 := by
      rcases Nat.lt_or_ge i (dP S.1) with y | y
      · exact y
      · rw [if_neg (by omega)] at hs0
        exact absurd hs0 z
    have q4 : q < 4 := by
      rcases Nat.lt_or_ge q 4 with y | y
      · exact y
      · exact absurd ((inF_q q hq).2.mpr (by omega)) w
    have hF := (inF_q q hq).1.mpr q4
    obtain ⟨a, w', ⟨c, ps, st, g, wd, bs, qq, hB, j3, j4⟩, j5, j6, j7⟩ := par_LB (v := nI q - 1) hO h.2.2.2.2.2.1 hil (Or.inr (Or.inr rfl))
    unfold wpL_law_b366
    refine ⟨fun y => absurd y z, fun _ => ⟨_, hB.1, ps, rfl, _, qq, i, j3, rfl, hil, by omega, a, j4, _, j5, ?_⟩⟩
    unfold wpL_law_b388
    refine ⟨fun y => absurd y (by decide), fun _ => ⟨_, hB.1, ps, rfl, _, qq, i, j3, rfl, hil, by omega, a, j4, _, j5, fun mu51 e51 => ?_⟩⟩
    have e51' : mu51 = sP m a (upd S.1 (11 + 34 * i + 2) (nI q - 1) (11 + 34 * i), upd S.1 (11 + 34 * i + 2) (nI q - 1) (11 + 34 * i + 1), upd S.1 (11 + 34 * i + 2) (nI q - 1) (11 + 34 * i + 2), some w') := by
      rw [e51, pk_un (by omega), pk_un (by omega), pk_us]
    rw [← e51'] at j6 j7
    unfold wpL_law_b408
    refine ⟨by omega, fun S39 e39 r39 er => ⟨fun y => absurd y (by decide), fun _ => ?_⟩⟩
    have es : s_fix S (nI i) (nI q - 1) = rEd S (dF S.1 i) (upd S.1 (11 + 34 * i + 2) (nI q - 1)) := by
      unfold s_fix
      rw [cif_y ⟨i, hil, rfl⟩, cif_y hF, nz_nI (by omega)]
    rw [es] at e39 er
    have e1 : S39 = ivE S (upd S.1 (11 + 34 * i + 2) (nI q - 1)) := e39
    have e2 : r39 = dF S.1 i := er.trans (an2_0 rfl)
    rw [e1, e2]
    unfold wpL_law_b438
    refine ⟨fun y => absurd rfl y, fun _ => ?_⟩
    unfold wpL_law_b446
    rw [hv9]
    exact h.chg j7 KX.rf j6 (fix_ok hO hil hF).1 (Sm_1 hS hil (Or.inr (Or.inr rfl))) (by omega) (fun m' hI => hK _ _ _ m' (by omega) (by omega) hI)
end FIX
