/-! THE LAW'S EDITS: retouch, its cases -/
section RT2
variable {k0 k1 : Nat → Nat} {S : ivS} {m m' : Mu} {b v10 v5 v7 done k cB u : Nat} {Post : Prop} {K : ivS → Mu → Nat → Int32 → Nat → Nat → Nat → Int32 → Int32 → Prop}
theorem ret_937y {i kk l : Nat} {v9 v13 v24 : Int32} (h : PRE k0 k1 S m b v10 v5 v7 done) (hv9 : v9 = nI k) (hi : i < dP S.1) (hkl : kk ≤ dN S.1 i) (hl : l ≤ dW S.1 - dS S.1) (h0 : l = 0 → kk < dN S.1 i ∧ dN S.1 i ≠ 1) (h1 : l ≠ 0 → kk < 5) (hu : u + 17652 ≤ cB) (hK : NXT K b v5 v7 k u done) : wpL_law_b937 cB Post K S m u v5 b v7 (nI done) v9 v10 1 (nI i) v13 (nI (dN S.1 i)) (nI kk) (nI l) v24 := by
  have hO := h.1
  have hS := h.2.1
  have h16 := hO.p16
  have hw60 := hO.w60
  have hn5 := hS.2.2.2.2.1 i hi
  obtain ⟨c, ps, st, g, wd, bs, hB0, -⟩ := id h.2.2.2.2.2.1
  obtain ⟨j1, -, ⟨qq, j3, j3'⟩, j4, -⟩ := id hB0
  obtain ⟨j5, fw, j6, j7⟩ := j4 i hi
  unfold wpL_law_b937
  refine ⟨fun y => absurd y (by decide), fun _ => ⟨_, j1, ps, rfl, _, qq, i, j3, rfl, hi, by omega, _, j3' i hi, _, j5, _, rfl, fun z => ⟨fun y => ?_, fun y => ?_⟩, fun z => ?_⟩⟩
  · have z : l ≠ 0 := fun e => z (by rw [e]; rfl)
    have y : kk ≠ dN S.1 i := fun e => y (by rw [e])
    have hn := retD_n (d := S.1) (p := i) (kk := kk) (l := l) (by omega)
    rw [if_neg z, if_neg y] at hn
    refine ⟨_, fw, j6, by omega, by omega, fun a ha mu123 e123 => ⟨dN S.1 i, fw, kk, by rw [e123]; exact up_s, rfl, by omega, by omega, fun mu125 e125 => ?_⟩⟩
    have F : Fx e0 m mu125 := by
      rw [e125, e123]
      exact fx_toI (fx_toI Fx.rf (Or.inr ha.1)) (Or.inr ha.1)
    refine ret_1008 (n := dN S.1 i) (f' := upd fw kk (nI l)) h hv9 hi hkl hl h0 h1 F ha (by rw [e125]; exact up_s) hn.symm (fun t ht => ?_) (by omega) u (by omega) hK
    rw [retD_w1 z]
    by_cases w : t = kk
    · rw [w, pk_us, if_pos rfl]
    · rw [pk_un w, if_neg w]; exact j7 t ht
  · have z : l ≠ 0 := fun e => z (by rw [e]; rfl)
    have y : kk = dN S.1 i := (nI_eq (by omega) (by omega)).mp y
    have hn := retD_n (d := S.1) (p := i) (kk := kk) (l := l) (by omega)
    rw [if_neg z, if_pos y] at hn
    refine ⟨1, by omega, with_s (by omega) (by omega) j6 (fun q f' hq g1 g2 => ?_)⟩
    refine ret_1008 (n := dN S.1 i + 1) (f' := f') h hv9 hi hkl hl h0 h1 (Fx.sI (Or.inr hq.1)) hq up_s hn.symm (fun t ht => ?_) (by omega) u (by omega) hK
    rw [retD_w1 z]
    by_cases w : t = kk
    · rw [w, y, if_pos rfl]; exact g2
    · rw [if_neg w, g1 t (by omega)]; exact j7 t (by omega)
  · have z : l = 0 := (nI_eq (by omega) (by decide)).mp (show nI l = nI 0 from z)
    have hz := h0 z
    have hn := retD_n (d := S.1) (p := i) (kk := kk) (l := l) (by omega)
    rw [if_pos z] at hn
    refine ⟨1, by omega, without_s (by omega) j6 hz.1 (by omega) (fun q f' hq g1 => ?_)⟩
    refine ret_1008 (n := dN S.1 i - 1) (f' := f') h hv9 hi hkl hl h0 h1 (Fx.sI (Or.inr hq.1)) hq up_s hn.symm (fun t ht => ?_) (by omega) u (by omega) hK
    rw [z, retD_w0 ht, g1 t ht]
    by_cases w : t < kk
    · rw [if_pos w, if_pos w]; exact j7 t (by omega)
    · rw [if_neg w, if_neg w]; exact j7 (t + 1) (by omega)
/-- what is not changed -/
theorem ret_937n {i kk l al : Nat} {v9 v13 v24 : Int32} (h : PRE k0 k1 S m b v10 v5 v7 done) (hv9 : v9 = nI k) (hu : u + 17660 ≤ cB) (hK : NXT K b v5 v7 k u done) (hr : (v13 = 0 ∧ s_retouch S (nI i) (nI kk) (nI l) = rNo S 1) ∨ (¬ v13 = 0 ∧ v24 = 0 ∧ s_retouch S (nI i) (nI kk) (nI l) = rNo S 2) ∨ (¬ v13 = 0 ∧ ¬ v24 = 0 ∧ s_retouch S (nI i) (nI kk) (nI l) = rNo S 3)) : wpL_law_b937 cB Post K S m u v5 b v7 (nI done) v9 v10 0 (nI i) v13 (nI al) (nI kk) (nI l) v24 := by
  unfold wpL_law_b937
  exact ⟨fun _ => ret_1021n h hv9 hu hK hr, fun z => absurd rfl z⟩
/-- from its good arguments on -/
theorem ret_871 {i kk l al : Nat} {v9 v13 : Int32} {gd : Bool} (h : PRE k0 k1 S m b v10 v5 v7 done) (hv9 : v9 = nI k) (hi : i ≤ dP S.1) (h13 : v13 = if i < dP S.1 then 1 else 0) (hal : al = if i < dP S.1 then dN S.1 i else 0) (hk : kk < al + 2) (hl : l < dW S.1 - dS S.1 + 2) (hg : gd = true ↔ kk ≤ al ∧ l ≤ dW S.1 - dS S.1 ∧ (kk < al ∨ 0 < l)) (hu : u + 17660 ≤ cB) (hK : NXT K b v5 v7 k u done) : wpL_law_b871 cB Post K S m u 1 v5 b v7 (nI done) v9 v10 (nI i) v13 (nI al) (nI kk) (nI l) (bI gd) := by
  have hO := h.1
  have hS := h.2.1
  have h16 := hO.p16
  have hw60 := hO.w60
  by_cases hil : i < dP S.1
  · rw [if_pos hil] at h13 hal
    subst h13
    subst hal
    have hn5 := hS.2.2.2.2.1 i hil
    have hn1 := hO.n1 hil
    have bad : gd = false → s_retouch S (nI i) (nI kk) (nI l) = rNo S 2 := fun e => by
      unfold s_retouch
      rw [cif_y ⟨i, hil, rfl⟩, nz_nI (show i < 2 ^ 31 by omega), cif_n (fun y => ?_)]
      obtain ⟨k', l', a1, a2, a3, a4, a5⟩ := y
      rw [nI_eq (by omega) (by omega)] at a2 a4
      subst a2
      subst a4
      have : gd = true := hg.mpr ⟨a1, a3, by
        rcases Nat.lt_or_ge kk (dN S.1 i) with w | w
        · exact Or.inl w
        · exact Or.inr (by rcases Nat.eq_zero_or_pos l with v | v; exact absurd ⟨v, by omega⟩ a5; exact v)⟩
      rw [e] at this
      cases this
    have b907 : (gd = false ∨ (l = 0 ∧ dN S.1 i = 1) ∨ (0 < l ∧ 5 ≤ kk)) → wpL_law_b907 cB Post K S m u 1 v5 b v7 (nI done) v9 v10 (nI i) 1 (nI (dN S.1 i)) (nI kk) (nI l) (bI gd) := fun hc => by
      unfold wpL_law_b907 wpL_law_b908
      refine ⟨fun y => absurd y (by decide), fun _ => ⟨fun y => ?_, fun y => ?_⟩⟩
      · have e : gd = false := by cases gd; rfl; exact absurd y (by decide)
        exact ret_937n h hv9 hu hK (Or.inr (Or.inl ⟨by decide, by rw [e]; rfl, bad e⟩))
      · have e : gd = true := by cases gd; exact absurd rfl y; rfl
        obtain ⟨a1, a2, a3⟩ := hg.mp e
        have r3 : l = 0 → s_retouch S (nI i) (nI kk) (nI l) = rNo S 3 := fun l0 => by
          unfold s_retouch
          rw [cif_y ⟨i, hil, rfl⟩, nz_nI (show i < 2 ^ 31 by omega), nz_nI (show kk < 2 ^ 31 by omega), nz_nI (show l < 2 ^ 31 by omega), cif_y ⟨kk, l, a1, rfl, a2, rfl, fun w => by omega⟩, cif_y (show badRet S.1 i kk l from Or.inl ⟨l0, ?_⟩)]
          rcases hc with c | c | c
          · rw [e] at c; cases c
          · exact c.2
          · omega
        refine ⟨fun z => ?_, fun z => ⟨fun w => ?_, fun w => ?_⟩⟩
        · have z : l = 0 := by
            have := (nI_leI (by omega) (by decide)).mp (show nI l ≤ nI 0 from z)
            omega
          exact ret_937n h hv9 hu hK (Or.inr (Or.inr ⟨by decide, by rw [e]; decide, r3 z⟩))
        · have z : ¬ l = 0 := fun v => z (by rw [v]; show nI 0 ≤ nI 0; decide)
          have w : kk < 5 := (nI_ltI (by omega) (by decide)).mp (show nI kk < nI 5 from w)
          rcases hc with c | c | c
          · rw [e] at c; cases c
          · exact absurd c.1 z
          · omega
        · rw [hv9]
          exact h.stay (by omega) (fun m' hI => hK _ _ _ m' (by omega) (by omega) hI)
    have b903 : gd = true → (l = 0 → dN S.1 i ≠ 1) → (l ≠ 0 → kk < 5) → wpL_law_b903 cB Post K S m u 1 v5 b v7 (nI done) v9 v10 (nI i) 1 (nI (dN S.1 i)) (nI kk) (nI l) (bI gd) := fun e h0 h1 => by
      obtain ⟨a1, a2, a3⟩ := hg.mp e
      have y := ret_937y (v13 := 1) (v24 := bI gd) (cB := cB) (Post := Post) (K := K) h hv9 hil a1 a2 (fun z => ⟨by omega, h0 z⟩) h1 (by omega) hK
      unfold wpL_law_b903 wpL_law_b908
      refine ⟨fun w => absurd w (by decide), fun _ => ⟨fun _ => y, fun _ => ⟨fun _ => y, fun z => ⟨fun _ => y, fun w => absurd ?_ w⟩⟩⟩⟩
      have z : l ≠ 0 := fun v => z (by rw [v]; show nI 0 ≤ nI 0; decide)
      show nI kk < nI 5
      rw [nI_ltI (by omega) (by decide)]
      exact h1 z
    unfold wpL_law_b871
    refine ⟨fun y => absurd y (by decide), fun _ => ⟨fun y => ?_, fun y => ?_⟩⟩
    · have e : gd = false := by cases gd; rfl; exact absurd y (by decide)
      exact b907 (Or.inl e)
    · have e : gd = true := by cases gd; exact absurd rfl y; rfl
      refine ⟨fun z => ?_, fun z => ?_⟩
      · have z : l = 0 := by
          have := (nI_leI (by omega) (by decide)).mp (show nI l ≤ nI 0 from z)
          omega
        refine ⟨fun w => b907 (Or.inr (Or.inl ⟨z, ?_⟩)), fun w => b903 e (fun _ v => w ?_) (fun v => absurd z v)⟩
        · have := (nI_leI (by omega) (by decide)).mp (show nI (dN S.1 i) ≤ nI 1 from w)
          omega
        · rw [v]; show nI 1 ≤ nI 1; decide
      · have z : ¬ l = 0 := fun v => z (by rw [v]; show nI 0 ≤ nI 0; decide)
        refine ⟨fun w => b907 (Or.inr (Or.inr ⟨by omega, ?_⟩)), fun w => b903 e (fun v => absurd v z) (fun _ => ?_)⟩
        · exact (nI_leI (by decide) (by omega)).mp (show nI 5 ≤ nI kk from w)
        · rcases Nat.lt_or_ge kk 5 with v | v
          · exact v
          · exact absurd (show nI 5 ≤ nI kk from nI_le v (by omega)) w
  · rw [if_neg hil] at h13 hal
    subst h13
    unfold wpL_law_b871
    refine ⟨fun _ => ?_, fun y => absurd rfl y⟩
    unfold wpL_law_b907 wpL_law_b908
    refine ⟨fun _ => ret_937n h hv9 hu hK (Or.inl ⟨rfl, ?_⟩), fun y => absurd rfl y⟩
    unfold s_retouch
    rw [cif_n (in_no (by omega) (by omega) (by omega))]
end RT2
