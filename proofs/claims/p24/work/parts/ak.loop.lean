/-! THE LAW'S LOOP: which edit, the copy ahead of it, fourteen times -/
section LOP
variable {k0 k1 : Nat → Nat} {S : ivS} {m m' : Mu} {b v10 v5 v7 done k cB u : Nat} {Post : Prop} {K : ivS → Mu → Nat → Int32 → Nat → Nat → Nat → Int32 → Int32 → Prop}
theorem l816_s {i al : Nat} {v13 : Int32} (h : PRE k0 k1 S m b v10 v5 v7 done) (hi : i ≤ dP S.1) (h13 : v13 = if i < dP S.1 then 1 else 0) (hal : al = if i < dP S.1 then dN S.1 i else 0) (hu : u + 17660 ≤ cB) (hK : NXT K b v5 v7 k u done) : wpL_law_b816 cB Post K S m u 1 v5 b v7 (nI done) (nI k) v10 (nI i) v13 (nI (dW S.1 - dS S.1)) (nI al) := by
  have hO := h.1
  have hS := h.2.1
  have hw60 := hO.w60
  have ha5 : al ≤ 5 := by
    rw [hal]
    split
    · next z => exact hS.2.2.2.2.1 i z
    · omega
  obtain ⟨x, hx⟩ := h.2.2.2.2.1
  unfold wpL_law_b816
  refine ⟨x, hx, by omega, ?_⟩
  rw [li2, nI_add]
  refine h.below (by omega) (by omega) (fun kk m1 hkk h1 _ _ _ _ => ?_)
  obtain ⟨x1, hx1⟩ := h1.2.2.2.2.1
  refine ⟨x1, hx1, by omega, ?_⟩
  rw [nI_add]
  refine h1.below (by omega) (by omega) (fun l m2 hl h2 _ _ _ _ => ?_)
  have y : ∀ gd : Bool, (gd = true ↔ kk ≤ al ∧ l ≤ dW S.1 - dS S.1 ∧ (kk < al ∨ 0 < l)) → wpL_law_b871 cB Post K S m2 u 1 v5 b v7 (nI done) (nI k) v10 (nI i) v13 (nI al) (nI kk) (nI l) (bI gd) := fun gd hg => ret_871 h2 rfl hi h13 hal hkk hl hg hu hK
  have n0 : ¬ (kk ≤ al ∧ l ≤ dW S.1 - dS S.1 ∧ (kk < al ∨ 0 < l)) → wpL_law_b870 cB Post K S m2 u 1 v5 b v7 (nI done) (nI k) v10 (nI i) v13 (nI al) (nI kk) (nI l) := fun hn => by
    unfold wpL_law_b870
    exact y false ⟨fun z => (by cases z), fun z => absurd z hn⟩
  have n1 : (kk ≤ al ∧ l ≤ dW S.1 - dS S.1 ∧ (kk < al ∨ 0 < l)) → wpL_law_b866 cB Post K S m2 u 1 v5 b v7 (nI done) (nI k) v10 (nI i) v13 (nI al) (nI kk) (nI l) := fun hn => by
    unfold wpL_law_b866
    exact y true ⟨fun _ => hn, fun _ => rfl⟩
  refine ⟨fun z => n0 ?_, fun z => ⟨fun w => n0 ?_, fun w => ⟨fun v => n1 ?_, fun v => ⟨fun t => n0 ?_, fun t => n1 ?_⟩⟩⟩⟩
  · rw [nI_ltI (by omega) (by omega)] at z; omega
  · rw [nI_ltI (by omega) (by omega)] at w; omega
  · rw [nI_ltI (by omega) (by omega)] at z w v; omega
  · have t := (nI_leI (by omega) (by decide)).mp (show nI l ≤ nI 0 from t)
    rw [nI_ltI (by omega) (by omega)] at z w v; omega
  · have t : ¬ l ≤ 0 := fun e => t (show nI l ≤ nI 0 from nI_le e (by decide))
    rw [nI_ltI (by omega) (by omega)] at z w v; omega
theorem l280_s {i : Nat} {s0 : Int32} (h : PRE k0 k1 S m b v10 v5 v7 done) (hi : i ≤ dP S.1) (hs0 : s0 = if i < dP S.1 then 1 else 0) (hu : u + 17680 ≤ cB) (hK : NXT K b v5 v7 k u done) : wpL_law_b280 cB Post K S m u 1 v5 b v7 (nI done) (nI k) v10 (nI i) s0 := by
  have hO := h.1
  have hS := h.2.1
  have h16 := hO.p16
  have hw60 := hO.w60
  have hw10 := hO.w10
  have hs4 := hS.2.2.2.2.2.2
  obtain ⟨c, ps, st, g, wd, bs, hB, -⟩ := id h.2.2.2.2.2.1
  obtain ⟨j1, -, -⟩ := id hB
  obtain ⟨x, hx⟩ := h.2.2.2.2.1
  have eM : S.1 0 - S.1 2 = nI (dW S.1 - dS S.1) := by rw [hO.w, hO.s, sm_sub (by omega)]
  unfold wpL_law_b280
  refine ⟨_, j1, _, j1, x, hx, by omega, h.below (n := 7) (by decide) (by decide) (fun r m1 hr h1 e1 e2 e3 e4 => ?_)⟩
  obtain ⟨x1, hx1⟩ := h1.2.2.2.2.1
  have q0 : s0 = 0 ↔ ¬ i < dP S.1 := by
    rw [hs0]
    by_cases y : i < dP S.1
    · rw [if_pos y]; exact ⟨fun z => absurd z (by decide), fun z => absurd y z⟩
    · rw [if_neg y]; exact ⟨fun _ => y, fun _ => rfl⟩
  refine ⟨fun _ => ⟨x1, hx1, by omega, h1.below (n := 5) (by decide) (by decide) (fun q m2 hq h2 _ _ _ _ => lfix_s h2 rfl hi hs0 hq (by omega) hK)⟩, fun _ => ⟨x1, hx1, by omega, h1.below (n := 2) (by decide) (by decide) (fun t m2 ht h2 _ _ _ _ => ⟨fun _ => lbegin_s (B := false) h2 rfl hi hs0 (by omega) hK, fun _ => lbegin_s (B := true) h2 rfl hi hs0 (by omega) hK⟩)⟩, fun _ => ⟨x1, hx1, by omega, h1.below (n := 5) (by decide) (by decide) (fun w m2 hw h2 _ _ _ _ => ?_)⟩, fun _ => ⟨fun z => lremove_n h1 rfl (by omega) hK, fun z => ⟨x1, hx1, by omega, h1.below (n := 3) (by decide) (by decide) (fun t m2 ht h2 _ _ _ _ => ⟨fun _ => lremove_n h2 rfl (by omega) hK, fun _ => lremove_y h2 rfl ?_ (by omega) hK⟩)⟩⟩, fun _ => ⟨fun z => ?_, fun z => ?_⟩, fun _ => ⟨fun z => ?_, fun z => ?_⟩, fun _ => ⟨x1, hx1, by omega, h1.below (n := 7) (by decide) (by decide) (fun w m2 hw h2 _ _ _ _ => ?_)⟩⟩
  · obtain ⟨x2, hx2⟩ := h2.2.2.2.2.1
    refine ⟨x2, hx2, by omega, ?_⟩
    show wpX10_below m2 v5 ((S.1 0 - S.1 2) + 2) _
    rw [eM, li2, nI_add]
    exact h2.below (by omega) (by omega) (fun l m3 hl h3 _ _ _ _ => linsert_s h3 rfl rfl hi hw hl (by omega) hK)
  · rcases Nat.lt_or_ge i (dP S.1) with y | y
    · exact y
    · exact absurd (q0.mpr (by omega)) z
  · have z := q0.mp z
    show wpL_law_b816 cB Post K S m1 u 1 v5 b v7 (nI done) (nI k) v10 (nI i) s0 (S.1 0 - S.1 2) (nI 0)
    rw [eM]
    exact l816_s h1 hi hs0 (if_neg z).symm (by omega) hK
  · have z : i < dP S.1 := by
      rcases Nat.lt_or_ge i (dP S.1) with y | y
      · exact y
      · exact absurd (q0.mpr (by omega)) z
    obtain ⟨c', ps', st', g', wd', bs', hB', -⟩ := id h1.2.2.2.2.2.1
    obtain ⟨i1, -, ⟨qq, i3, i3'⟩, i4, -⟩ := id hB'
    obtain ⟨i5, fw, i6, -⟩ := i4 i z
    refine ⟨_, i1, ps', rfl, _, qq, i, i3, rfl, z, by omega, _, i3' i z, _, i5, _, rfl, _, fw, i6, ?_⟩
    show wpL_law_b816 cB Post K S m1 u 1 v5 b v7 (nI done) (nI k) v10 (nI i) s0 (S.1 0 - S.1 2) (nI (dN S.1 i))
    rw [eM]
    exact l816_s h1 hi hs0 (if_pos z).symm (by omega) hK
  · have z := q0.mp z
    show wpL_law_b816 cB Post K S m1 u 1 v5 b v7 (nI done) (nI k) v10 (nI i) s0 (S.1 0 - S.1 2) (nI 0)
    rw [eM]
    exact l816_s h1 hi hs0 (if_neg z).symm (by omega) hK
  · have z : i < dP S.1 := by
      rcases Nat.lt_or_ge i (dP S.1) with y | y
      · exact y
      · exact absurd (q0.mpr (by omega)) z
    obtain ⟨c', ps', st', g', wd', bs', hB', -⟩ := id h1.2.2.2.2.2.1
    obtain ⟨i1, -, ⟨qq, i3, i3'⟩, i4, -⟩ := id hB'
    obtain ⟨i5, fw, i6, -⟩ := i4 i z
    refine ⟨_, i1, ps', rfl, _, qq, i, i3, rfl, z, by omega, _, i3' i z, _, i5, _, rfl, _, fw, i6, ?_⟩
    show wpL_law_b816 cB Post K S m1 u 1 v5 b v7 (nI done) (nI k) v10 (nI i) s0 (S.1 0 - S.1 2) (nI (dN S.1 i))
    rw [eM]
    exact l816_s h1 hi hs0 (if_pos z).symm (by omega) hK
  · obtain ⟨x2, hx2⟩ := h2.2.2.2.2.1
    exact ⟨x2, hx2, by omega, h2.below (n := 40) (by decide) (by decide) (fun co m3 hco h3 _ _ _ _ => lcost_s h3 rfl hw hco (by omega) hK)⟩
/-- fourteen times -/
theorem l228_L {A E : Nat} (hA : A = 17800) (hE : E = 150000) (hEnd : ∀ (u' done' : Nat) (S' : ivS) (m' : Mu), u' + E ≤ cB → done' ≤ 14 → INV S' m' b v5 v7 done' → wpL_law_b1242 cB Post S' m' u' 1 v7 (nI done')) : ∀ (r k u done : Nat) (S : ivS) (m : Mu), k + r = 14 → u + A * r + E ≤ cB → done ≤ k → INV S m b v5 v7 done → wpL_law_L228 cB Post (r + 1) S m u 1 v5 b v7 (nI done) (nI k)
  | r, k, u, done, S, m, hk, hu, hdk, h => by
    have hA2 : A * r = 17800 * r := by rw [hA]
    unfold wpL_law_L228
    refine ⟨fun z => hEnd u done S m (by omega) (by omega) h, fun z => ⟨fun w => absurd w (by decide), fun _ => ?_⟩⟩
    have hk14 : k < 14 := by
      rcases Nat.lt_or_ge k 14 with y | y
      · exact y
      · exact absurd (show nI 14 ≤ nI k from nI_le y (by omega)) z
    cases r with
    | zero => exact absurd hk (by omega)
    | succ r =>
      have hA3 : A * (r + 1) = A * r + 17800 := by rw [hA, Nat.mul_add]
      obtain ⟨hO, hS, hn, hd, ⟨x, hx⟩, k0, k1, hL, hH⟩ := id h
      have h16 := hO.p16
      obtain ⟨y, hy⟩ := hL.some
      refine ⟨y, hy, 20, by omega, copy_LB hO hS hL (Nat.le_refl _) (fun m2 r0 k0' k1' f2 hr kx hLr => ?_)⟩
      have hL2 := (hL.f0 f2)
      have kx2 : ∀ {a : Nat} {d : Nat → Int32}, LB k0 k1 m a d → LB k0' k1' m2 a d := fun hh => (hh.col kx).f0 f2
      have hx2 := f2.R (fun w => w) hx
      have hrb : r0 ≠ b := fun z => by rw [← z, hr.2.2.2.1] at hy; cases hy
      have hP : PRE k0' k1' S m2 b r0 v5 v7 done := ⟨hO, hS, hn, hd, ⟨x, hx2⟩, kx2 hL, (hH.col kx).f0 f2, hLr, hrb, fun f hf j hj e => by
        obtain ⟨q0, q1, q2, -⟩ := hH
        have := f2.Q (fun w => w) q1
        rw [hf] at this
        cases this
        obtain ⟨-, z, hz⟩ := q2 j r0 hj e
        rw [hr.2.2.2.1] at hz
        cases hz⟩
      obtain ⟨c, ps, st, g, wd, bs, hB, -⟩ := id hP.2.2.2.2.2.1
      obtain ⟨j1, -, ⟨qq, j3, -⟩, -⟩ := id hB
      refine ⟨_, j1, ps, rfl, _, qq, j3, x, hx2, by omega, ?_⟩
      rw [li1, nI_add]
      have hN : NXT (wpL_law_L228 cB Post (r + 1)) b v5 v7 k (u + 20) done := fun u' done' S' m' hu' hd' hI => l228_L hA hE hEnd r (k + 1) u' done' S' m' (by omega) (by omega) (by omega) hI
      refine hP.below (by omega) (by omega) (fun i m3 hi h3 e1 e2 _ _ => ⟨_, (by rw [e1]; exact j1), ps, rfl, _, qq, (by rw [e2]; exact j3), fun z => ?_, fun z => ?_⟩)
      · have z := (nI_leI (by omega) (by omega)).mp z
        exact l280_s h3 (by omega) (if_neg (by omega)).symm (by omega) hN
      · have z : i < dP S.1 := by
          rcases Nat.lt_or_ge i (dP S.1) with w | w
          · exact w
          · exact absurd (nI_le w (by omega)) z
        exact l280_s h3 (by omega) (if_pos z).symm (by omega) hN
end LOP
