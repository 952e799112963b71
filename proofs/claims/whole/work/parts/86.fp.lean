/-! FLOATS -/
def allB (f : Nat → Bool) : Nat → Nat → Bool
  | 0, i => f i
  | k + 1, i => allB f k i && allB f k (i + 2 ^ k)
theorem allB_spec {f : Nat → Bool} : ∀ k i, allB f k i = true → ∀ j, i ≤ j → j < i + 2 ^ k → f j = true
  | 0, i, h, j, h1, h2 => by
    have : j = i := by simp at h2; omega
    subst this; exact h
  | k + 1, i, h, j, h1, h2 => by
    unfold allB at h
    simp only [Bool.and_eq_true] at h
    rw [Nat.pow_succ] at h2
    rcases Nat.lt_or_ge j (i + 2 ^ k) with g | g
    · exact allB_spec k i h.1 j h1 g
    · exact allB_spec k (i + 2 ^ k) h.2 j g (by omega)
/-- a number's float is a finite number, positive where it is -/
def fpF (n : Nat) : Bool := match FP.Core.decode FP.Core.b32 (FP.Core.fromInt FP.Core.b32 (n : Int)) with
  | .fin s c _ => !s && (n == 0 || c != 0) && decide (FP.Core.fromInt FP.Core.b32 (n : Int) < 2 ^ 31)
  | _ => false
theorem fp_tab0 : allB fpF 12 0 = true := by decide +kernel
theorem fp_tab1 : allB fpF 12 4096 = true := by decide +kernel
theorem fp_tab2 : allB fpF 12 8192 = true := by decide +kernel
theorem fp_tab3 : allB fpF 12 12288 = true := by decide +kernel
theorem fp_tab4 : allB fpF 12 16384 = true := by decide +kernel
theorem fpF_all {n : Nat} (h : n < 19201) : fpF n = true := by
  rcases Nat.lt_or_ge n 4096 with g | g
  · exact allB_spec 12 0 fp_tab0 n (Nat.zero_le _) (by omega)
  rcases Nat.lt_or_ge n 8192 with g | g
  · exact allB_spec 12 4096 fp_tab1 n (by omega) (by omega)
  rcases Nat.lt_or_ge n 12288 with g | g
  · exact allB_spec 12 8192 fp_tab2 n (by omega) (by omega)
  rcases Nat.lt_or_ge n 16384 with g | g
  · exact allB_spec 12 12288 fp_tab3 n (by omega) (by omega)
  · exact allB_spec 12 16384 fp_tab4 n (by omega) (by omega)
theorem i2f_dec {n : Nat} (h : n < 19201) : ∃ c q, FP.Core.decode FP.Core.b32 (FP.i2f (nI n)).toNat = .fin false c q ∧ (n ≠ 0 → c ≠ 0) := by
  have hf := fpF_all h
  have e : (FP.i2f (nI n)).toNat = FP.Core.fromInt FP.Core.b32 (n : Int) % 2 ^ 32 := by
    show (UInt32.ofNat (FP.Core.fromInt FP.Core.b32 (nI n).toInt)).toNat = _
    rw [nI_toInt (by omega), UInt32.toNat_ofNat']
  unfold fpF at hf
  split at hf
  · next s c q hd =>
    simp only [Bool.and_eq_true, Bool.or_eq_true, bne_iff_ne, beq_iff_eq, decide_eq_true_eq, Bool.not_eq_true'] at hf
    obtain ⟨⟨h1, h2⟩, h3⟩ := hf
    rw [e, Nat.mod_eq_of_lt (by omega), hd, h1]
    exact ⟨c, q, rfl, fun hn => h2.resolve_left hn⟩
  · cases hf
/-! no NaN comes of finite numbers -/
section FPN
def gd32 : FP.Core.Datum → Prop
  | .nan => False
  | .inf _ => True
  | .fin _ c q => c < 16777216 ∧ -149 ≤ q ∧ q ≤ 104
def gd64 : FP.Core.Datum → Prop
  | .nan => False
  | .inf _ => True
  | .fin _ c q => c < 9007199254740992 ∧ -1074 ≤ q ∧ q ≤ 971
theorem t32 : FP.Core.b32.tails = 8388608 ∧ FP.Core.b32.exps = 256 ∧ FP.Core.b32.qmin = -149 ∧ FP.Core.b32.qmax = 104 ∧ 2 ^ FP.Core.b32.p = 16777216 := by decide
theorem t64 : FP.Core.b64.tails = 4503599627370496 ∧ FP.Core.b64.exps = 2048 ∧ FP.Core.b64.qmin = -1074 ∧ FP.Core.b64.qmax = 971 ∧ 2 ^ FP.Core.b64.p = 9007199254740992 := by decide
theorem rr32 (s : Bool) (num den : Nat) (e : Int) : gd32 (FP.Core.roundRatio FP.Core.b32 s num den e) := by
  obtain ⟨h1, h2, h3, h4, h5⟩ := t32
  unfold FP.Core.roundRatio
  split
  · rw [h3]
    exact ⟨by decide, by decide, by decide⟩
  · unfold FP.Core.roundAt FP.Core.settle
    have hq : -149 ≤ FP.Core.quantum FP.Core.b32 num den e := by
      unfold FP.Core.quantum
      rw [h3]
      exact Int.le_max_left _ _
    generalize FP.Core.quantum FP.Core.b32 num den e = q at *
    generalize FP.Core.nearest _ _ = c
    unfold FP.Core.bound
    rw [h4, h5, h1]
    split
    · next hc =>
      split
      · next hq2 => exact ⟨hc, hq, hq2⟩
      · exact trivial
    · split
      · next hq2 => exact ⟨by decide, by omega, hq2⟩
      · exact trivial
theorem rr64 (s : Bool) (num den : Nat) (e : Int) : gd64 (FP.Core.roundRatio FP.Core.b64 s num den e) := by
  obtain ⟨h1, h2, h3, h4, h5⟩ := t64
  unfold FP.Core.roundRatio
  split
  · rw [h3]
    exact ⟨by decide, by decide, by decide⟩
  · unfold FP.Core.roundAt FP.Core.settle
    have hq : -1074 ≤ FP.Core.quantum FP.Core.b64 num den e := by
      unfold FP.Core.quantum
      rw [h3]
      exact Int.le_max_left _ _
    generalize FP.Core.quantum FP.Core.b64 num den e = q at *
    generalize FP.Core.nearest _ _ = c
    unfold FP.Core.bound
    rw [h4, h5, h1]
    split
    · next hc =>
      split
      · next hq2 => exact ⟨hc, hq, hq2⟩
      · exact trivial
    · split
      · next hq2 => exact ⟨by decide, by omega, hq2⟩
      · exact trivial
theorem bn2 (s : Bool) : s.toNat < 2 := by cases s <;> decide
theorem enc32 {d : FP.Core.Datum} (h : gd32 d) : ∃ s x, s < 2 ∧ x ≤ 2139095040 ∧ FP.Core.encode FP.Core.b32 d = s * 2147483648 + x := by
  obtain ⟨h1, h2, h3, h4, h5⟩ := t32
  cases d with
  | nan => exact h.elim
  | inf s =>
    refine ⟨s.toNat, 2139095040, bn2 s, Nat.le_refl _, ?_⟩
    show FP.Core.assemble FP.Core.b32 s (FP.Core.b32.exps - 1) 0 = _
    unfold FP.Core.assemble
    rw [h1, h2]
    omega
  | fin s c q =>
    obtain ⟨a1, a2, a3⟩ := h
    unfold FP.Core.encode FP.Core.assemble
    rw [h1, h2, h3]
    dsimp only
    split
    · exact ⟨s.toNat, c, bn2 s, by omega, by omega⟩
    · have hb : (q - -149).toNat ≤ 253 := by omega
      generalize (q - -149).toNat = w at *
      exact ⟨s.toNat, (w + 1) * 8388608 + (c - 8388608), bn2 s, by omega, by omega⟩
theorem enc64 {d : FP.Core.Datum} (h : gd64 d) : ∃ s x, s < 2 ∧ x ≤ 9218868437227405312 ∧ FP.Core.encode FP.Core.b64 d = s * 9223372036854775808 + x := by
  obtain ⟨h1, h2, h3, h4, h5⟩ := t64
  cases d with
  | nan => exact h.elim
  | inf s =>
    refine ⟨s.toNat, 9218868437227405312, bn2 s, Nat.le_refl _, ?_⟩
    show FP.Core.assemble FP.Core.b64 s (FP.Core.b64.exps - 1) 0 = _
    unfold FP.Core.assemble
    rw [h1, h2]
    omega
  | fin s c q =>
    obtain ⟨a1, a2, a3⟩ := h
    unfold FP.Core.encode FP.Core.assemble
    rw [h1, h2, h3]
    dsimp only
    split
    · exact ⟨s.toNat, c, bn2 s, by omega, by omega⟩
    · have hb : (q - -1074).toNat ≤ 2045 := by omega
      generalize (q - -1074).toNat = w at *
      exact ⟨s.toNat, (w + 1) * 4503599627370496 + (c - 4503599627370496), bn2 s, by omega, by omega⟩
theorem vf32_iff {x : UInt32} : vf_n32 x ↔ x.toNat % 2147483648 ≤ 2139095040 := by
  unfold vf_n32
  rw [UInt32.le_iff_toNat_le, UInt32.toNat_and]
  rw [show (0x7fffffff : UInt32).toNat = 2 ^ 31 - 1 from rfl, Nat.and_two_pow_sub_one_eq_mod]
  exact Iff.rfl
theorem vf64_iff {x : UInt64} : vf_n64 x ↔ x.toNat % 9223372036854775808 ≤ 9218868437227405312 := by
  unfold vf_n64
  rw [UInt64.le_iff_toNat_le, UInt64.toNat_and]
  rw [show (0x7fffffffffffffff : UInt64).toNat = 2 ^ 63 - 1 from rfl, Nat.and_two_pow_sub_one_eq_mod]
  exact Iff.rfl
theorem vf32_of {d : FP.Core.Datum} (h : gd32 d) : vf_n32 (UInt32.ofNat (FP.Core.encode FP.Core.b32 d)) := by
  obtain ⟨s, x, h1, h2, h3⟩ := enc32 h
  rw [vf32_iff, UInt32.toNat_ofNat', h3]
  omega
theorem vf64_of {d : FP.Core.Datum} (h : gd64 d) : vf_n64 (UInt64.ofNat (FP.Core.encode FP.Core.b64 d)) := by
  obtain ⟨s, x, h1, h2, h3⟩ := enc64 h
  rw [vf64_iff, UInt64.toNat_ofNat', h3]
  omega
theorem fdiv_n {a b : Nat} (ha : a < 19201) (hb : b < 19201) (h0 : b ≠ 0) : vf_n32 (FP.fdiv (FP.i2f (nI a)) (FP.i2f (nI b))) := by
  obtain ⟨c, q, h1, -⟩ := i2f_dec ha
  obtain ⟨d, r, h2, h3⟩ := i2f_dec hb
  show vf_n32 (UInt32.ofNat (FP.Core.encode FP.Core.b32 (FP.Core.quotient FP.Core.b32 (FP.Core.decode FP.Core.b32 _) (FP.Core.decode FP.Core.b32 _))))
  rw [h1, h2]
  refine vf32_of ?_
  show gd32 (if d = 0 then _ else _)
  rw [if_neg (h3 h0)]
  exact rr32 _ _ _ _
theorem dec32_n {x : UInt32} (h : vf_n32 x) : FP.Core.decode FP.Core.b32 x.toNat ≠ .nan := by
  obtain ⟨h1, h2, h3, h4, h5⟩ := t32
  rw [vf32_iff] at h
  have hx : x.toNat < 4294967296 := x.toNat_lt
  unfold FP.Core.decode FP.Core.fieldE FP.Core.fieldT
  rw [h1, h2]
  split
  · next hE =>
    rw [if_pos (by omega)]
    exact fun z => by cases z
  · split
    · exact fun z => by cases z
    · exact fun z => by cases z
theorem dec64_n {x : UInt64} (h : vf_n64 x) : FP.Core.decode FP.Core.b64 x.toNat ≠ .nan := by
  obtain ⟨h1, h2, h3, h4, h5⟩ := t64
  rw [vf64_iff] at h
  have hx : x.toNat < 18446744073709551616 := x.toNat_lt
  unfold FP.Core.decode FP.Core.fieldE FP.Core.fieldT
  rw [h1, h2]
  split
  · next hE =>
    rw [if_pos (by omega)]
    exact fun z => by cases z
  · split
    · exact fun z => by cases z
    · exact fun z => by cases z
theorem f2d_n {x : UInt32} (h : vf_n32 x) : vf_n64 (FP.f2d x) := by
  have hd := dec32_n h
  have e : FP.Core.fIsNaN x = false := decide_eq_false hd
  unfold FP.f2d
  rw [e, if_neg (by decide)]
  show vf_n64 (UInt64.ofNat (FP.Core.encode FP.Core.b64 (FP.Core.round FP.Core.b64 (FP.Core.decode FP.Core.b32 x.toNat))))
  refine vf64_of ?_
  cases hc : FP.Core.decode FP.Core.b32 x.toNat with
  | nan => exact absurd hc hd
  | inf s => exact trivial
  | fin s c q => exact rr64 _ _ _ _
theorem cmp_self (a : Int) : compare a a = .eq := by simp
theorem dcmp_self {x : UInt64} (h : vf_n64 x) : FP.dcmp x x = some .eq := by
  have hd := dec64_n h
  show FP.Core.order (FP.Core.decode FP.Core.b64 x.toNat) (FP.Core.decode FP.Core.b64 x.toNat) = _
  cases hc : FP.Core.decode FP.Core.b64 x.toNat with
  | nan => exact absurd hc hd
  | inf s => exact congrArg some (cmp_self _)
  | fin s c q => exact congrArg some (cmp_self _)
theorem fcmp_0 : Op.cmpValue (FP.fcmp (FP.i2f (nI 0)) FP.fconst0) CmpOp.g = 0 := by decide +kernel
theorem fcmp_p {n : Nat} (h : n < 19201) (h0 : n ≠ 0) : Op.cmpValue (FP.fcmp (FP.i2f (nI n)) FP.fconst0) CmpOp.g = 1 := by
  obtain ⟨c, q, h1, h2⟩ := i2f_dec h
  have h2 := h2 h0
  have e : FP.fcmp (FP.i2f (nI n)) FP.fconst0 = some .gt := by
    show FP.Core.order (FP.Core.decode FP.Core.b32 _) (FP.Core.decode FP.Core.b32 FP.fconst0.toNat) = _
    rw [h1, show FP.Core.decode FP.Core.b32 FP.fconst0.toNat = .fin false 0 (-149) by decide]
    refine congrArg some ?_
    show compare ((FP.Core.inUnits c q _ : Nat) : Int) ((FP.Core.inUnits 0 _ _ : Nat) : Int) = _
    unfold FP.Core.inUnits
    rw [Nat.zero_mul]
    have : 0 < c * 2 ^ (q - min q (-149)).toNat := Nat.mul_pos (by omega) (Nat.two_pow_pos _)
    generalize c * 2 ^ (q - min q (-149)).toNat = z at *
    exact Int.compare_eq_gt.mpr (by omega)
  rw [e]
  rfl
theorem fc0_n : vf_n32 FP.fconst0 := by unfold vf_n32; decide
end FPN
