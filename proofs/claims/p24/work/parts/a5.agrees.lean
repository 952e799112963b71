/-! THE LAW'S LOOK AT BOTH; numbers at random; frames from the start on -/
theorem fx_toI {e : Nat → Nat → Prop} {m0 m : Mu} {a : Nat} {x : ceI} (h : Fx e m0 m) (h0 : e 0 a ∨ mI m0 a = none) : Fx e m0 (sI m a x) :=
  ⟨fun k y n hy => up_k (fun z => by subst z; exact h0.elim n (fun q => by rw [q] at hy; cases hy)) (h.1 k y n hy), h.2⟩
theorem fx_toQ {e : Nat → Nat → Prop} {m0 m : Mu} {a : Nat} {x : ceQ} (h : Fx e m0 m) (h0 : e 5 a ∨ mQ m0 a = none) : Fx e m0 (sQ m a x) :=
  ⟨h.1, fun k y n hy => up_k (fun z => by subst z; exact h0.elim n (fun q => by rw [q] at hy; cases hy)) (h.2.1 k y n hy), h.2.2⟩
theorem fx_toP {e : Nat → Nat → Prop} {m0 m : Mu} {a : Nat} {x : ceP} (h : Fx e m0 m) (h0 : e 1 a ∨ mP m0 a = none) : Fx e m0 (sP m a x) :=
  ⟨h.1, h.2.1, fun k y n hy => up_k (fun z => by subst z; exact h0.elim n (fun q => by rw [q] at hy; cases hy)) (h.2.2.1 k y n hy), h.2.2.2⟩
theorem fx_toB {e : Nat → Nat → Prop} {m0 m : Mu} {a : Nat} {x : ceB} (h : Fx e m0 m) (h0 : e 2 a ∨ mB m0 a = none) : Fx e m0 (sB m a x) :=
  ⟨h.1, h.2.1, h.2.2.1, fun k y n hy => up_k (fun z => by subst z; exact h0.elim n (fun q => by rw [q] at hy; cases hy)) (h.2.2.2.1 k y n hy), h.2.2.2.2⟩
theorem fx_toR {e : Nat → Nat → Prop} {m0 m : Mu} {a : Nat} {x : ceR} (h : Fx e m0 m) (h0 : e 4 a ∨ mR m0 a = none) : Fx e m0 (sR m a x) :=
  ⟨h.1, h.2.1, h.2.2.1, h.2.2.2.1, h.2.2.2.2.1, fun k y n hy => up_k (fun z => by subst z; exact h0.elim n (fun q => by rw [q] at hy; cases hy)) (h.2.2.2.2.2.1 k y n hy), h.2.2.2.2.2.2⟩
theorem fx_app {e e' : Nat → Nat → Prop} {m0 m m' : Mu} (h : Fx e m0 m) (h2 : Fx e' m m') (he : ∀ t a, e' t a → e t a ∨ frM m0 a) : Fx e m0 m' :=
  ((h.mono (e' := fun t a => e t a ∨ e' t a) (fun t a => Or.inl)).trans (h2.mono (fun t a => Or.inr))).less (fun t a w => w.elim Or.inl (he t a))
theorem fx_fr {e : Nat → Nat → Prop} {m m' : Mu} {a : Nat} (h : Fx e m m') (f : frM m' a) (he : ∀ t, ¬ e t a) : frM m a := by
  obtain ⟨f1, f2, f3, f4, f5, f6, f7, f8, f9⟩ := f
  have t : ∀ {α : Type} {x y : Option α}, (∀ z, x = some z → y = some z) → y = none → x = none := fun {α x y} h1 h2 => by
    cases x with
    | none => rfl
    | some z => rw [h1 z rfl] at h2; cases h2
  exact ⟨t (fun z hz => h.I (he 0) hz) f1, t (fun z hz => h.Q (he 5) hz) f2, t (fun z hz => h.P (he 1) hz) f3, t (fun z hz => h.B (he 2) hz) f4, t (fun z hz => h.L (he 3) hz) f5, t (fun z hz => h.R (he 4) hz) f6, t (fun z hz => h.T hz) f7, t (fun z hz => h.S hz) f8, t (fun z hz => h.G hz) f9⟩
/-- a number below another -/
theorem sh16 (x : Int32) : ∃ y, y < 65536 ∧ (x.toUInt32 >>> ((16 : Int32).toUInt32 &&& Int32.toUInt32 31)).toInt32 = nI y := by
  have e : (16 : Int32).toUInt32 &&& Int32.toUInt32 31 = 16 := by decide
  rw [e]
  refine ⟨(x.toUInt32 >>> 16).toNat, ?_, ?_⟩
  · rw [UInt32.toNat_shiftRight, show (16 : UInt32).toNat % 32 = 16 from rfl, Nat.shiftRight_eq_div_pow]
    have := x.toUInt32.toNat_lt
    omega
  · apply Int32.toBitVec_inj.mp
    rw [nI_tB]
    show (x.toUInt32 >>> 16).toBitVec = _
    apply BitVec.eq_of_toNat_eq
    rw [BitVec.toNat_ofNat]
    have := (x.toUInt32 >>> 16).toNat_lt
    rw [Nat.mod_eq_of_lt (by exact this)]
    rfl
theorem below_s {m : Mu} {v n : Nat} {x : Int32} {Post : Int32 → Mu → Prop} (hR : mR m v = some x) (hn : 0 < n) (hn2 : n < 2 ^ 31) (hP : ∀ k x', k < n → Post (nI k) (sR m v x')) : wpX10_below m v (nI n) Post := by
  unfold wpX10_below
  refine ⟨_, hR, _, hR, fun mu3 e3 => ⟨((1103515245 : Int32) * x) + (12345 : Int32), (by rw [e3]; exact up_s), ?_, ?_⟩⟩
  · show ¬ nI n = nI 0
    rw [nI_eq hn2 (by decide)]
    omega
  · obtain ⟨y, h1, h2⟩ := sh16 (((1103515245 : Int32) * x) + (12345 : Int32))
    rw [h2, nI_div (by omega) hn2, pk_mul, sm_sub (Nat.div_mul_le_self y n)]
    have e : y - y / n * n = y % n := by
      have := Nat.div_add_mod y n
      rw [Nat.mul_comm] at this
      omega
    rw [e, e3]
    exact hP _ _ (Nat.mod_lt _ hn)
theorem lgc_self (x : Int64) : lg_cmp x x = 0 := by
  unfold lg_cmp
  simp
section AGR
variable {S : ivS} {m : Mu} {b : Nat} {c ps st : Nat} {g wd : Nat → Nat} {bs : Option Nat × Option Nat × Int32} {cB : Nat}
theorem in_no {n k : Nat} (hn : n < 2 ^ 31) (hk : k < 2 ^ 31) (h : k ≤ n) : ¬ inR (nI n) k := fun ⟨p, h1, h2⟩ => by
  rw [nI_eq hn (by omega)] at h2
  omega
theorem agr_L {Post : Int32 → ivS → Mu → Prop} (hO : OkB S.1) (hB : BK m b S.1 c ps st g wd bs) (hP : Post 1 S m) : ∀ r k : Nat, k + r = 13 → ∀ u : Nat, u + r ≤ cB → wpL_agrees_L58 cB Post (r + 1) S m u b 1 (nI k)
  | r, k, hk, u, hu => by
    unfold wpL_agrees_L58
    refine ⟨fun _ => ⟨by omega, Or.inr rfl, hP⟩, fun z => ⟨fun w => absurd w (by decide), fun _ => ?_⟩⟩
    have hk13 : k < 13 := by
      rcases Nat.lt_or_ge k 13 with y | y
      · exact y
      · exact absurd (show nI 13 ≤ nI k from nI_le y (by omega)) z
    cases r with
    | zero => exact absurd hk (by omega)
    | succ r =>
      have es : s_state S (nI k) = rOk S (stI S.1 k) := by
        unfold s_state
        rw [cif_y ⟨k, hk13, rfl⟩, nz_nI (by omega)]
      refine ⟨by omega, fun S6 e6 r6 er => ⟨_, hB.1, by omega, told_s hO hB hk13 ⟨fun z => absurd ?_ z, fun _ => ?_⟩⟩⟩
      · rw [er, es]
        exact an1_0 rfl
      · rw [e6, es]
        unfold wpL_agrees_b86
        rw [li1, nI_add]
        exact agr_L hO hB hP r (k + 1) (by omega) (u + 1) (by omega)
theorem agrees_s {Post : Int32 → ivS → Mu → Prop} (hO : OkB S.1) (hS : SmB S.1) (hB : BK m b S.1 c ps st g wd bs) (hc : c ≠ st) (hw : ∀ p, p < dP S.1 → wd p ≠ st) (hcB : 17600 ≤ cB) (hP : ∀ m' bs', Fx (exB b st) m m' → BK m' b S.1 c ps st g wd bs' → Post 1 S m') : wpL_agrees cB S m b Post := by
  have h16 := hO.p16
  unfold wpL_agrees
  refine ⟨Nat.zero_le _, fun r1 e1 => ⟨_, hB.1, 17575, by omega, checkL_s hO hS hB hc hw (Nat.le_refl _) (fun m' bs' f' B' => ⟨fun z => absurd ?_ z, fun _ => ⟨by omega, fun S9 e9 r9 er9 => ⟨fun z => absurd ?_ z, fun _ => ?_⟩⟩⟩)⟩⟩
  · rw [e1]
    exact lgc_self _
  · rw [er9]
    unfold s_state
    rw [cif_n (show ¬ inR (13 : Int32) 13 from in_no (n := 13) (by decide) (by decide) (Nat.le_refl _))]
    exact an1_1 rfl
  · have eS9 : S9 = S := by
      rw [e9]
      unfold s_state
      rw [cif_n (show ¬ inR (13 : Int32) 13 from in_no (n := 13) (by decide) (by decide) (Nat.le_refl _))]
      rfl
    subst eS9
    obtain ⟨k1, -, ⟨qq, k3, -⟩, -, -⟩ := id B'
    have e12 : s_paragraph S9 (nI (dP S9.1)) 0 = rNo S9 1 := by
      unfold s_paragraph
      rw [cif_n (in_no (by omega) (by omega) (Nat.le_refl _))]
    have e13 : s_plan S9 true 7 = rNo S9 1 := by
      unfold s_plan
      rw [cif_n (show ¬ inR (7 : Int32) 7 from in_no (n := 7) (by decide) (by decide) (Nat.le_refl _))]
    refine ⟨_, k1, _, rfl, _, _, k3, by omega, fun S12 h12 r12 er12 => ⟨fun z => absurd ?_ z, fun _ => ?_⟩⟩
    · rw [er12, e12]
      exact an2_1 rfl
    · have eS12 : S12 = S9 := by rw [h12, e12]; rfl
      subst eS12
      refine ⟨by omega, fun S13 h13 r13 er13 => ⟨fun z => absurd ?_ z, fun _ => ⟨14, ?_⟩⟩⟩
      · rw [er13, e13]
        exact an1_1 rfl
      · have eS13 : S13 = S12 := by rw [h13, e13]; rfl
        subst eS13
        exact agr_L hO B' (hP m' bs' f' B') 13 0 rfl _ (by omega)
end AGR
