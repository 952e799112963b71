/-! THE LAW'S EDITS: retouch -/
section RET
variable {k0 k1 : Nat → Nat} {S : ivS} {m m' : Mu} {b v10 v5 v7 done k cB u : Nat} {Post : Prop} {K : ivS → Mu → Nat → Int32 → Nat → Nat → Nat → Int32 → Int32 → Prop}
theorem retD_lo {d : Nat → Int32} {p kk l j : Nat} (h3 : j ≠ 11 + 34 * p + 3) (h : j < 11 + 34 * p + 4) : retD d p kk l j = d j := by
  unfold retD
  by_cases z : l = 0
  · rw [if_pos z, if_neg h3, if_neg (by omega)]
  · rw [if_neg z, if_neg (by omega), if_neg h3]
theorem retD_w0 {d : Nat → Int32} {p kk t : Nat} (ht : t < dN d p - 1) : retD d p kk 0 (11 + 34 * p + (4 + t)) = if t < kk then d (11 + 34 * p + (4 + t)) else d (11 + 34 * p + (4 + (t + 1))) := by
  unfold retD
  rw [if_pos rfl, if_neg (by omega)]
  by_cases y : t < kk
  · rw [if_pos y, if_neg (by omega)]
  · rw [if_neg y, if_pos (by omega)]
    rfl
theorem retD_w1 {d : Nat → Int32} {p kk l t : Nat} (hl : l ≠ 0) : retD d p kk l (11 + 34 * p + (4 + t)) = if t = kk then nI l else d (11 + 34 * p + (4 + t)) := by
  unfold retD
  rw [if_neg hl]
  by_cases y : t = kk
  · rw [if_pos y, if_pos (by omega)]
  · rw [if_neg y, if_neg (by omega), if_neg (by omega)]
theorem retD_n {d : Nat → Int32} {p kk l : Nat} (hn : dN d p < 1000) : dN (retD d p kk l) p = if l = 0 then dN d p - 1 else if kk = dN d p then dN d p + 1 else dN d p := by
  show nz (retD d p kk l (11 + 34 * p + 3)) = _
  unfold retD
  by_cases z : l = 0
  · rw [if_pos z, if_pos z, if_pos rfl, nz_nI (by omega)]
  · rw [if_neg z, if_neg z, if_neg (by omega), if_pos rfl]
    split
    · rw [nz_nI (by omega)]
    · rw [nz_nI (by omega)]
/-- refused -/
theorem ret_1021n {i kk l : Nat} {v9 v13 v24 : Int32} (h : PRE k0 k1 S m b v10 v5 v7 done) (hv9 : v9 = nI k) (hu : u + 17660 ≤ cB) (hK : NXT K b v5 v7 k u done) (hr : (v13 = 0 ∧ s_retouch S (nI i) (nI kk) (nI l) = rNo S 1) ∨ (¬ v13 = 0 ∧ v24 = 0 ∧ s_retouch S (nI i) (nI kk) (nI l) = rNo S 2) ∨ (¬ v13 = 0 ∧ ¬ v24 = 0 ∧ s_retouch S (nI i) (nI kk) (nI l) = rNo S 3)) : wpL_law_b1021 cB Post K S m u v5 b v7 (nI done) v9 v10 0 (nI i) v13 (nI kk) (nI l) v24 := by
  subst hv9
  have fin : ∀ r : Int32, wpL_law_b1069 cB Post K S m (u + 2) v5 b v7 (nI done) (nI k) v10 0 r r := fun r => by
    unfold wpL_law_b1069
    refine ⟨fun z => absurd rfl z, fun _ => ?_⟩
    unfold wpL_law_b1077
    exact h.stay (by omega) (fun m' hI => hK _ _ _ m' (by omega) (by omega) hI)
  unfold wpL_law_b1021
  refine ⟨by omega, fun S1 e1 r1 er => ⟨fun _ => ⟨fun z => ⟨fun y => ?_, fun y => ?_⟩, fun z => ?_⟩, fun z => absurd rfl z⟩⟩
  · rcases hr with ⟨w, -⟩ | ⟨-, -, e⟩ | ⟨-, w, -⟩
    · exact absurd w z
    · rw [e] at e1 er
      have e2 : S1 = S := e1
      rw [e2, er, an3_2 rfl]
      exact fin _
    · exact absurd y w
  · rcases hr with ⟨w, -⟩ | ⟨-, w, -⟩ | ⟨-, -, e⟩
    · exact absurd w z
    · exact absurd w y
    · rw [e] at e1 er
      have e2 : S1 = S := e1
      rw [e2, er, an3_3 rfl]
      exact fin _
  · rcases hr with ⟨-, e⟩ | ⟨w, -⟩ | ⟨w, -⟩
    · rw [e] at e1 er
      have e2 : S1 = S := e1
      rw [e2, er, an3_1 rfl]
      exact fin _
    · exact absurd z w
    · exact absurd z w
/-- the new row is put in -/
theorem ret_1008 {i kk l q n : Nat} {v9 v13 v24 : Int32} {mu : Mu} {f' : Nat → Int32} (h : PRE k0 k1 S m b v10 v5 v7 done) (hv9 : v9 = nI k) (hi : i < dP S.1) (hkl : kk ≤ dN S.1 i) (hl : l ≤ dW S.1 - dS S.1) (h0 : l = 0 → kk < dN S.1 i ∧ dN S.1 i ≠ 1) (h1 : l ≠ 0 → kk < 5) (hF : Fx e0 m mu) (hq : frM m q) (hI : mI mu q = some (n, f')) (hn : n = dN (retD S.1 i kk l) i) (hf : ∀ t, t < n → f' t = retD S.1 i kk l (11 + 34 * i + (4 + t))) (hu : u + 17650 ≤ cB) (U : Nat) (hU : u ≤ U + 50) (hK : NXT K b v5 v7 k U done) : wpL_law_b1008 cB Post K S mu u v5 b v7 (nI done) v9 v10 1 (nI i) v13 (nI kk) (nI l) v24 q := by
  have hO := h.1
  have hS := h.2.1
  have h16 := hO.p16
  have hw60 := hO.w60
  subst hv9
  obtain ⟨c, ps, st, g, wd, bs, hB0, c1, c2, c3, c4⟩ := h.2.2.2.2.2.1
  have hB := hB0.f0 hF
  obtain ⟨j1, -, ⟨qq, j3, j3'⟩, j4, -⟩ := id hB
  obtain ⟨j5, fw, j6, j7⟩ := j4 i hi
  have hn5 := hS.2.2.2.2.1 i hi
  obtain ⟨r1, r2, r3, r4, -⟩ := ret_ok hO hi hkl (show l ≤ 60 by omega) h0 (fun z => by have := h1 z; omega)
  have hd : ∀ j, j < 11 → retD S.1 i kk l j = S.1 j := fun j hj => retD_lo (by omega) (by omega)
  have e0 : retD S.1 i kk l (11 + 34 * i) = S.1 (11 + 34 * i) := retD_lo (by omega) (by omega)
  have e1 : retD S.1 i kk l (11 + 34 * i + 1) = S.1 (11 + 34 * i + 1) := retD_lo (by omega) (by omega)
  have e2 : retD S.1 i kk l (11 + 34 * i + 2) = S.1 (11 + 34 * i + 2) := retD_lo (by omega) (by omega)
  unfold wpL_law_b1008
  refine ⟨_, j1, ps, rfl, _, qq, i, j3, rfl, hi, by omega, _, j3' i hi, _, j5, fun m3 e3 => ?_⟩
  have F3 : Fx (fun t a => t = 1 ∧ a = g i) mu m3 := by rw [e3]; exact Fx.sP (Or.inl ⟨rfl, rfl⟩)
  have B3 : BK m3 b (retD S.1 i kk l) c ps st g (fun x => if x = i then q else wd x) bs := par_BK hO hB hi hd (fun x hx hne => r4 x hne) F3 c4 (by rw [e0, e1, e2, e3]; exact up_s) ⟨f', by rw [← hn, e3]; exact hI, fun t ht => hf t (by rw [hn]; exact ht)⟩
  unfold wpL_law_b1021
  refine ⟨by omega, fun S1 es1 r1' er => ⟨fun y => absurd y (by decide), fun _ => ⟨_, B3.1, by omega, many_s (s := 0) r1 B3 (by rw [r2]; exact hi) (by decide) ?_⟩⟩⟩
  have es : s_retouch S (nI i) (nI kk) (nI l) = rEd S (nI (cnt (retD S.1 i kk l) i 0)) (retD S.1 i kk l) := by
    unfold s_retouch
    rw [cif_y ⟨i, hi, rfl⟩, nz_nI (show i < 2 ^ 31 by omega), nz_nI (show kk < 2 ^ 31 by omega), nz_nI (show l < 2 ^ 31 by omega), cif_y ⟨kk, l, hkl, rfl, hl, rfl, fun y => by have := h0 y.1; omega⟩, cif_n (fun y => by
      rcases y with y | y
      · exact (h0 y.1).2 y.2
      · omega)]
  rw [es] at es1 er
  have g1 : S1 = ivE S (retD S.1 i kk l) := es1
  have g2 : r1' = nI (cnt (retD S.1 i kk l) i 0) := er.trans (an3_0 rfl)
  rw [g1, g2]
  unfold wpL_law_b1069
  refine ⟨fun y => absurd rfl y, fun _ => ?_⟩
  unfold wpL_law_b1077
  have kx : KX m k0 k1 (fun x => if x = q then 0 else k0 x) k1 := ⟨fun x hx => by
    show (if x = q then 0 else k0 x) = k0 x
    rw [if_neg (fun z => hx (by rw [z]; exact hq.1))], fun _ _ => rfl⟩
  have F2 : Fx (exK k0 k1 b) m m3 := (hF.mono (fun t x w => w.elim)).trans (F3.mono (fun t x w => Or.inr (Or.inr ⟨w.1, by rw [w.2]; exact (c3 i hi).1⟩)))
  obtain ⟨-, ⟨fc, kc, -⟩, -, -, ft, kt⟩ := id hB0
  refine h.chg F2 kx ⟨c, ps, st, g, _, bs, B3, ?_, ?_, fun p hp => ⟨(c3 p (by rw [r2] at hp; exact hp)).1, ?_⟩, fun p p' hp hp' => c4 p p' (by rw [r2] at hp; exact hp) (by rw [r2] at hp'; exact hp')⟩ r1 (Sm_par (p := i) hS hd (fun x hx hne => r4 x hne) ?_) (by omega) (fun m' hI => hK _ _ _ m' (by omega) (by omega) hI)
  · show (if c = q then 0 else k0 c) = _
    rw [if_neg (fun z => by rw [z, hq.1] at kc; cases kc)]; exact c1
  · show (if st = q then 0 else k0 st) = _
    rw [if_neg (fun z => by rw [z, hq.1] at kt; cases kt)]; exact c2
  · rw [r2] at hp
    show (if (if p = i then q else wd p) = q then 0 else k0 (if p = i then q else wd p)) = 0
    by_cases y : p = i
    · rw [if_pos y, if_pos rfl]
    · rw [if_neg y]
      split
      · rfl
      · exact (c3 p hp).2
  · rw [retD_n (by omega)]
    split
    · omega
    · next z =>
      have := h1 z
      split <;> omega
end RET
