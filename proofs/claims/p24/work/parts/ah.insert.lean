/-! THE LAW'S EDITS: insert -/
section INS
variable {k0 k1 : Nat → Nat} {S : ivS} {m m' : Mu} {b v10 v5 v7 done k cB u : Nat} {Post : Prop} {K : ivS → Mu → Nat → Int32 → Nat → Nat → Nat → Int32 → Int32 → Prop}
theorem insD_new {d : Nat → Int32} {p w l : Nat} (hp : p ≤ dP d) (hw : w ≤ 30) : insD d p w l (11 + 34 * p) = 0 ∧ insD d p w l (11 + 34 * p + 1) = 0 ∧ insD d p w l (11 + 34 * p + 2) = -1 ∧ dN (insD d p w l) p = w ∧ ∀ k, k < w → insD d p w l (11 + 34 * p + (4 + k)) = nI l := by
  have e3 : insD d p w l (11 + 34 * p + 3) = nI w := by
    unfold insD
    rw [if_neg (by omega), if_neg (by omega), if_pos (by omega), if_neg (by omega), if_pos rfl]
  refine ⟨?_, ?_, ?_, ?_, fun k hk => ?_⟩
  · unfold insD
    rw [if_neg (by omega), if_neg (by omega), if_pos (by omega), if_neg (by omega), if_neg (by omega), if_neg (by omega)]
    rfl
  · unfold insD
    rw [if_neg (by omega), if_neg (by omega), if_pos (by omega), if_neg (by omega), if_neg (by omega), if_neg (by omega)]
    rfl
  · unfold insD
    rw [if_neg (by omega), if_neg (by omega), if_pos (by omega), if_pos rfl]
  · show nz (insD d p w l (11 + 34 * p + 3)) = w
    rw [e3, nz_nI (by omega)]
  · unfold insD
    rw [if_neg (by omega), if_neg (by omega), if_pos (by omega), if_neg (by omega), if_neg (by omega), if_pos (by omega)]
theorem ins_666n {i w l : Nat} {v9 : Int32} (h : PRE k0 k1 S m b v10 v5 v7 done) (hv9 : v9 = nI k) (hi : i ≤ dP S.1) (hw : w < 5) (hl : l < 30) (hno : w = 0 ∨ l = 0 ∨ dW S.1 - dS S.1 < l) (hu : u + 17660 ≤ cB) (hK : NXT K b v5 v7 k u done) : wpL_law_b612 cB Post K S m u v5 b v7 (nI done) v9 v10 0 (nI i) (nI w) (nI l) := by
  have hO := h.1
  have h16 := hO.p16
  subst hv9
  unfold wpL_law_b612
  refine ⟨fun _ => ?_, fun y => absurd rfl y⟩
  unfold wpL_law_b666
  have es : s_insert S (nI i) (nI w) (nI l) = rNo S 1 := by
    unfold s_insert
    rw [cif_n (fun y => ?_)]
    obtain ⟨-, ⟨w', a1, a2, a3⟩, l', b1, b2, b3⟩ := y
    have hw60 := hO.w60
    rw [nI_eq (by omega) (by omega)] at a3
    rw [nI_eq (by omega) (by omega)] at b3
    omega
  refine ⟨by omega, fun S1 e1 r1 er => ⟨fun _ => ?_, fun y => absurd rfl y⟩⟩
  rw [es] at e1 er
  have e2 : S1 = S := e1
  rw [e2, er, an2_1 rfl]
  unfold wpL_law_b692
  refine ⟨fun y => absurd rfl y, fun _ => ?_⟩
  unfold wpL_law_b700
  exact h.stay (by omega) (fun m' hI => hK _ _ _ m' (by omega) (by omega) hI)
theorem ins_L {i w l a A U : Nat} {v9 : Int32} (hA : A = 17604) (hU : U = u + 10) (h : PRE k0 k1 S m b v10 v5 v7 done) (hv9 : v9 = nI k) (hi : i ≤ dP S.1) (h3 : dP S.1 < 3) (hw : 1 ≤ w ∧ w ≤ 4) (hl : 1 ≤ l ∧ l ≤ dW S.1 - dS S.1) (ha : frM m a) (hK : NXT K b v5 v7 k u done) : ∀ r j : Nat, j + r = w → ∀ (u' : Nat) (mu : Mu) (wr : Nat) (f : Nat → Int32), u' + r + A ≤ cB → u' + r ≤ U → Fx e0 m mu → mP mu a = some (0, 0, -1, some wr) → frM m wr → mI mu wr = some (j, f) → (∀ t, t < j → f t = nI l) → wpL_law_L629 cB Post K (r + 1) S mu u' v5 b v7 (nI done) v9 v10 1 (nI i) (nI w) (nI l) a (nI j)
  | r, j, hj, u', mu, wr, f, hu, huu, hf, hp, hwr, hI, hfl => by
    have hO := h.1
    have hS := h.2.1
    have h16 := hO.p16
    have hw60 := hO.w60
    obtain ⟨c, ps, st, g, wd, bs, hB0, h1, h2, h5, h4⟩ := h.2.2.2.2.2.1
    have hB := hB0.f0 hf
    unfold wpL_law_L629
    refine ⟨fun z => ?_, fun z => ?_⟩
    · have e : j = w := by
        have := (nI_leI (by omega) (by omega)).mp z
        omega
      subst e
      obtain ⟨i1, i2, i3, i4, i5, -⟩ := ins_ok hO hi (by omega) hw.1 (by omega) (show l ≤ 60 by omega)
      obtain ⟨n0, n1, n2, n3, n4⟩ := insD_new (d := S.1) (l := l) hi (show j ≤ 30 by omega)
      refine ⟨_, hB.1, 2, by omega, ?_⟩
      refine adds_s (w := wr) hO hB hi i3 i2 i4 (fun q h1 h2 => by have := i5 (q + 1) (by omega) (by omega); rw [Nat.add_sub_cancel] at this; exact this) (by rw [n0, n1, n2]; exact hp) ⟨f, by rw [n3]; exact hI, fun t ht => by rw [n3] at ht; rw [n4 t ht]; exact hfl t ht⟩ (Nat.le_refl _) (fun m2 ps' f2 B2 => ?_)
      unfold wpL_law_b666
      refine ⟨by omega, fun S1 e1 r1 er => ⟨fun y => absurd y (by decide), fun _ => ?_⟩⟩
      have es : s_insert S (nI i) (nI j) (nI l) = rEd S (nI (dP S.1 + 1)) (insD S.1 i j l) := by
        unfold s_insert
        rw [cif_y ⟨⟨i, by omega, rfl⟩, ⟨j, hw.1, by omega, rfl⟩, ⟨l, hl.1, hl.2, rfl⟩⟩, if_neg (by omega), nz_nI (by omega), nz_nI (by omega), nz_nI (by omega)]
      rw [es] at e1 er
      have e3 : S1 = ivE S (insD S.1 i j l) := e1
      have e4 : r1 = nI (dP S.1 + 1) := er.trans (an2_0 rfl)
      obtain ⟨q1, -, ⟨q2, q3, -⟩, -⟩ := id B2
      rw [i2] at q3
      refine ⟨_, q1, ps', rfl, _, q2, q3, ?_⟩
      rw [e3, e4]
      unfold wpL_law_b692
      refine ⟨fun y => absurd rfl y, fun _ => ?_⟩
      unfold wpL_law_b700
      rw [hv9]
      have kx : KX m k0 k1 (fun x => if x = wr then 0 else k0 x) (fun x => if x = a then b else k1 x) := ⟨fun x hx => by
        show (if x = wr then 0 else k0 x) = k0 x
        rw [if_neg (fun z => hx (by rw [z]; exact hwr.1))], fun x hx => by
        show (if x = a then b else k1 x) = k1 x
        rw [if_neg (fun z => hx (by rw [z]; exact ha.2.2.1))]⟩
      have F2 : Fx (exK k0 k1 b) m m2 := (hf.mono (fun t x w => w.elim)).trans (f2.mono (fun t x w => Or.inl w))
      obtain ⟨-, ⟨fc, kc, -⟩, -, j4, ft, kt⟩ := id hB0
      have nc : c ≠ wr := fun z => by rw [z, hwr.1] at kc; cases kc
      have nst : st ≠ wr := fun z => by rw [z, hwr.1] at kt; cases kt
      have ng : ∀ p, p < dP S.1 → g p ≠ a := fun p hp z => by
        have := (j4 p hp).1
        rw [z, ha.2.2.1] at this
        cases this
      refine h.chg F2 kx ⟨c, ps', st, _, _, bs, B2, ?_, ?_, fun p hp => ?_, fun p p' hp hp' he => ?_⟩ i1 (Sm_head hS i3 (by rw [i2]; omega) (fun p hp => ?_)) (by omega) (fun m' hI => hK _ _ _ m' (by omega) (by omega) hI)
      · show (if c = wr then 0 else k0 c) = _
        rw [if_neg nc]; exact h1
      · show (if st = wr then 0 else k0 st) = _
        rw [if_neg nst]; exact h2
      · rw [i2] at hp
        show (if insF g i a p = a then b else k1 (insF g i a p)) = b ∧ (if insF wd i wr p = wr then 0 else k0 (insF wd i wr p)) = 0
        unfold insF
        by_cases y : p < i
        · rw [if_pos y, if_pos y, if_neg (ng p (by omega))]
          refine ⟨(h5 p (by omega)).1, ?_⟩
          split
          · rfl
          · exact (h5 p (by omega)).2
        · by_cases y2 : p = i
          · rw [if_neg y, if_neg y, if_pos y2, if_pos y2, if_pos rfl, if_pos rfl]
            exact ⟨rfl, rfl⟩
          · rw [if_neg y, if_neg y, if_neg y2, if_neg y2, if_neg (ng (p - 1) (by omega))]
            refine ⟨(h5 (p - 1) (by omega)).1, ?_⟩
            split
            · rfl
            · exact (h5 (p - 1) (by omega)).2
      · rw [i2] at hp hp'
        unfold insF at he
        by_cases y : p < i
        · by_cases y' : p' < i
          · rw [if_pos y, if_pos y'] at he; exact h4 p p' (by omega) (by omega) he
          · by_cases z' : p' = i
            · rw [if_pos y, if_neg y', if_pos z'] at he; exact absurd he (ng p (by omega))
            · rw [if_pos y, if_neg y', if_neg z'] at he; have := h4 p (p' - 1) (by omega) (by omega) he; omega
        · by_cases zp : p = i
          · by_cases y' : p' < i
            · rw [if_neg y, if_pos zp, if_pos y'] at he; exact absurd he.symm (ng p' (by omega))
            · by_cases z' : p' = i
              · omega
              · rw [if_neg y, if_pos zp, if_neg y', if_neg z'] at he; exact absurd he.symm (ng (p' - 1) (by omega))
          · by_cases y' : p' < i
            · rw [if_neg y, if_neg zp, if_pos y'] at he; have := h4 (p - 1) p' (by omega) (by omega) he; omega
            · by_cases z' : p' = i
              · rw [if_neg y, if_neg zp, if_neg y', if_pos z'] at he; exact absurd he (ng (p - 1) (by omega))
              · rw [if_neg y, if_neg zp, if_neg y', if_neg z'] at he; have := h4 (p - 1) (p' - 1) (by omega) (by omega) he; omega
      · rw [i2] at hp
        by_cases y : p < i
        · rw [(i4 p y).rows.2.2.2.1]; exact hS.2.2.2.2.1 p (by omega)
        · by_cases y2 : p = i
          · rw [y2, n3]; omega
          · rw [(i5 p (by omega) (by omega)).rows.2.2.2.1]; exact hS.2.2.2.2.1 (p - 1) (by omega)
    · have hjw : j < w := by
        rcases Nat.lt_or_ge j w with y | y
        · exact y
        · exact absurd (nI_le y (by omega)) z
      cases r with
      | zero => exact absurd hj (by omega)
      | succ r =>
        refine ⟨_, hp, wr, rfl, 1, by omega, with_s (by omega) (by omega) hI (fun q f' hq g1 g2 => ⟨(0, 0, -1, some wr), hp, fun m3 e3 => ?_⟩)⟩
        have hq0 := hf.fr hq
        rw [li1, nI_add]
        refine ins_L hA hU h hv9 hi h3 hw hl ha hK r (j + 1) (by omega) (u' + 1) m3 q f' (by omega) (by omega) ?_ (by rw [e3]; exact up_s) hq0 (by rw [e3]; exact up_s) (fun t ht => ?_)
        · rw [e3]
          exact fx_toP (fx_toI hf (Or.inr hq0.1)) (Or.inr ha.2.2.1)
        · by_cases y : t = j
          · rw [y, g2]
          · rw [g1 t (by omega)]; exact hfl t (by omega)
theorem linsert_s {i w l : Nat} {v9 M : Int32} (h : PRE k0 k1 S m b v10 v5 v7 done) (hv9 : v9 = nI k) (hM : M = nI (dW S.1 - dS S.1)) (hi : i ≤ dP S.1) (hw : w < 5) (hl : l < dW S.1 - dS S.1 + 2) (hu : u + 17680 ≤ cB) (hK : NXT K b v5 v7 k u done) : ∃ x73, mB m b = some x73 ∧ ∃ a73, x73.2.2.2.2.2.1 = some a73 ∧ ∃ n74 f74, mQ m a73 = some (2, n74, f74) ∧ ((3 : Int32) ≤ (nI n74) → wpL_law_b596 cB Post K S m u v5 b v7 (nI done) v9 v10 (nI i) (nI w) (nI l)) ∧ (¬ (3 : Int32) ≤ (nI n74) → (nI w ≤ 0 → wpL_law_b596 cB Post K S m u v5 b v7 (nI done) v9 v10 (nI i) (nI w) (nI l)) ∧ (¬ nI w ≤ 0 → (nI l ≤ 0 → wpL_law_b596 cB Post K S m u v5 b v7 (nI done) v9 v10 (nI i) (nI w) (nI l)) ∧ (¬ nI l ≤ 0 → (M < nI l → wpL_law_b596 cB Post K S m u v5 b v7 (nI done) v9 v10 (nI i) (nI w) (nI l)) ∧ (¬ M < nI l → wpL_law_b597 cB Post K S m u v5 b v7 (nI done) v9 v10 (nI i) (nI w) (nI l) (1 : Int32))))) := by
  have hO := h.1
  have hS := h.2.1
  have hS3 := hS.1
  have h16 := hO.p16
  have hw17 := hS.2.2.2.2.2.1
  obtain ⟨c, ps, st, g, wd, bs, hB, -⟩ := h.2.2.2.2.2.1
  obtain ⟨j1, -, ⟨qq, j3, -⟩, -⟩ := id hB
  have no : (dP S.1 = 3 ∨ w = 0 ∨ l = 0 ∨ dW S.1 - dS S.1 < l) → wpL_law_b596 cB Post K S m u v5 b v7 (nI done) v9 v10 (nI i) (nI w) (nI l) := fun hc => by
    unfold wpL_law_b596 wpL_law_b597
    refine ⟨_, j1, ps, rfl, _, qq, j3, fun z => ins_666n h hv9 hi hw (by omega) ?_ (by omega) hK, fun z => ins_666n (w := 0) h hv9 hi (by decide) (by omega) (Or.inl rfl) (by omega) hK⟩
    rcases hc with e | e
    · exact absurd (by rw [e]; rfl) z
    · exact e
  refine ⟨_, j1, ps, rfl, _, qq, j3, fun z => no (Or.inl ?_), fun z => ⟨fun z2 => no (Or.inr (Or.inl ?_)), fun z2 => ⟨fun z3 => no (Or.inr (Or.inr (Or.inl ?_))), fun z3 => ⟨fun z4 => no (Or.inr (Or.inr (Or.inr ?_))), fun z4 => ?_⟩⟩⟩⟩
  · have := (nI_leI (by decide) (by omega)).mp (show nI 3 ≤ nI (dP S.1) from z)
    omega
  · have := (nI_leI (by omega) (by decide)).mp (show nI w ≤ nI 0 from z2)
    omega
  · have := (nI_leI (by omega) (by decide)).mp (show nI l ≤ nI 0 from z3)
    omega
  · rw [hM, nI_ltI (by omega) (by omega)] at z4
    exact z4
  · have a1 : ¬ 3 ≤ dP S.1 := fun y => z (show nI 3 ≤ nI (dP S.1) from nI_le y (by omega))
    have a2 : ¬ w ≤ 0 := fun y => z2 (show nI w ≤ nI 0 from nI_le y (by decide))
    have a3 : ¬ l ≤ 0 := fun y => z3 (show nI l ≤ nI 0 from nI_le y (by decide))
    rw [hM, nI_ltI (by omega) (by omega)] at z4
    unfold wpL_law_b597
    refine ⟨_, j1, ps, rfl, _, qq, j3, fun _ => ?_, fun y => absurd ((nI_eq (by omega) (by decide)).mp (show nI (dP S.1) = nI 3 from y)) (by omega)⟩
    unfold wpL_law_b612
    refine ⟨fun y => absurd y (by decide), fun _ => ⟨by omega, fun a ha mu81 e81 => ⟨1, by omega, para_init (x := (0, 0, 0, none)) (by rw [e81]; exact up_s) (Nat.le_refl _) (fun m1 wr f1 hwr p1 w1 _ => ?_)⟩⟩⟩
    obtain ⟨fw, w1⟩ := w1
    have F81 : Fx (fun k x => k = 1 ∧ x = a) m mu81 := by rw [e81]; exact Fx.sP (Or.inr ha.2.2.1)
    have hwr0 : frM m wr := by rw [e81] at hwr; exact (fr_P hwr).1
    refine ⟨w + 1, ins_L rfl rfl h hv9 hi (by omega) (by omega) (by omega) ha hK w 0 (Nat.zero_add _) _ m1 wr fw (by omega) (by omega) ((F81.trans f1).less (fun k x w => Or.inr (by rw [w.2]; exact ha))) p1 hwr0 w1 (fun t ht => absurd ht (Nat.not_lt_zero _))⟩
end INS
