/-! FOUR SIGNS IN AN INT -/
theorem nI_tB (a : Nat) : (nI a).toBitVec = BitVec.ofNat 32 a := rfl
theorem nI_or (a b : Nat) : nI a ||| nI b = nI (a ||| b) := by
  apply Int32.toBitVec_inj.mp
  rw [Int32.toBitVec_or, nI_tB, nI_tB, nI_tB, BitVec.ofNat_or]
theorem nI_255 {a : Nat} : nI a &&& 255 = nI (a % 256) := by
  apply Int32.toBitVec_inj.mp
  rw [Int32.toBitVec_and, nI_tB, nI_tB]
  apply BitVec.eq_of_toNat_eq
  rw [BitVec.toNat_and, BitVec.toNat_ofNat, BitVec.toNat_ofNat, show (255 : Int32).toBitVec.toNat = 2 ^ 8 - 1 from rfl, Nat.and_two_pow_sub_one_eq_mod]
  omega
theorem nI_shl {c s : Nat} (hs : s = 0 ∨ s = 8 ∨ s = 16 ∨ s = 24) : nI c <<< nI s = nI (c * 2 ^ s) := by
  apply Int32.toBitVec_inj.mp
  rw [Int32.toBitVec_shiftLeft, nI_tB, nI_tB, nI_tB]
  have e : (BitVec.ofNat 32 s).smod 32 = BitVec.ofNat 32 s := by rcases hs with rfl | rfl | rfl | rfl <;> decide
  rw [e]
  apply BitVec.eq_of_toNat_eq
  rw [BitVec.shiftLeft_eq', BitVec.toNat_shiftLeft, BitVec.toNat_ofNat, BitVec.toNat_ofNat, BitVec.toNat_ofNat, Nat.mod_eq_of_lt (show s < 2 ^ 32 by omega), Nat.shiftLeft_eq]
  rw [Nat.mod_mul_mod]
theorem nI_shr {a s : Nat} (ha : a < 2 ^ 31) (hs : s = 0 ∨ s = 8 ∨ s = 16 ∨ s = 24) : nI a >>> nI s = nI (a / 2 ^ s) := by
  apply Int32.toBitVec_inj.mp
  rw [Int32.toBitVec_shiftRight, nI_tB, nI_tB, nI_tB]
  have e : (BitVec.ofNat 32 s).smod 32 = BitVec.ofNat 32 s := by rcases hs with rfl | rfl | rfl | rfl <;> decide
  rw [e]
  have hm : (BitVec.ofNat 32 a).msb = false := by
    rw [BitVec.msb_eq_decide, BitVec.toNat_ofNat, Nat.mod_eq_of_lt (by omega)]
    exact decide_eq_false (by omega)
  show (BitVec.ofNat 32 a).sshiftRight (BitVec.ofNat 32 s).toNat = _
  rw [BitVec.sshiftRight_eq_of_msb_false hm]
  apply BitVec.eq_of_toNat_eq
  rw [BitVec.toNat_ushiftRight, BitVec.toNat_ofNat, BitVec.toNat_ofNat, BitVec.toNat_ofNat, Nat.mod_eq_of_lt (show s < 2 ^ 32 by omega), Nat.shiftRight_eq_div_pow, Nat.mod_eq_of_lt (show a < 2 ^ 32 by omega)]
  have : a / 2 ^ s ≤ a := Nat.div_le_self _ _
  rw [Nat.mod_eq_of_lt (show a / 2 ^ s < 2 ^ 32 by omega)]
/-- four signs -/
def W4 (c : Nat → Nat) : Nat := c 0 * 2 ^ 24 + c 1 * 2 ^ 16 + c 2 * 2 ^ 8 + c 3
theorem W4_lt {c : Nat → Nat} (h : ∀ k, k < 4 → c k < 128) : W4 c < 2 ^ 31 := by
  have h0 := h 0 (by decide)
  have h1 := h 1 (by decide)
  have h2 := h 2 (by decide)
  have h3 := h 3 (by decide)
  unfold W4
  omega
theorem W4_byt {c : Nat → Nat} (h : ∀ k, k < 4 → c k < 128) {k : Nat} (hk : k < 4) : (nI (W4 c) >>> nI (24 - 8 * k)) &&& 255 = nI (c k) := by
  have h0 := h 0 (by decide)
  have h1 := h 1 (by decide)
  have h2 := h 2 (by decide)
  have h3 := h 3 (by decide)
  rw [nI_shr (W4_lt h) (by omega), nI_255]
  congr 1
  unfold W4
  have : k = 0 ∨ k = 1 ∨ k = 2 ∨ k = 3 := by omega
  rcases this with rfl | rfl | rfl | rfl
  · show (_ / 2 ^ 24) % 256 = _
    omega
  · show (_ / 2 ^ 16) % 256 = _
    omega
  · show (_ / 2 ^ 8) % 256 = _
    omega
  · show (_ / 2 ^ 0) % 256 = _
    omega
/-- one more sign -/
theorem W4_put {c : Nat → Nat} {k x : Nat} (h : ∀ j, j < 4 → c j < 128) (hk : k < 4) (h0 : ∀ j, k ≤ j → j < 4 → c j = 0) (hx : x < 128) : nI (W4 c) ||| (nI x <<< ((24 - 8 * nI k) &&& 31)) = nI (W4 (fun j => if j = k then x else c j)) := by
  have h0' := h 0 (by decide)
  have h1 := h 1 (by decide)
  have h2 := h 2 (by decide)
  have h3 := h 3 (by decide)
  have : k = 0 ∨ k = 1 ∨ k = 2 ∨ k = 3 := by omega
  have oz : ∀ a b s : Nat, b < 2 ^ s → (a * 2 ^ s) ||| b = a * 2 ^ s + b := fun a b s hb => by
    rw [← Nat.shiftLeft_eq, Nat.shiftLeft_add_eq_or_of_lt hb]
  rcases this with rfl | rfl | rfl | rfl
  · have c0 := h0 0 (by decide) (by decide)
    have c1 := h0 1 (by decide) (by decide)
    have c2 := h0 2 (by decide) (by decide)
    have c3 := h0 3 (by decide) (by decide)
    have e : (24 - 8 * nI 0) &&& 31 = nI 24 := by decide
    rw [e, nI_shl (by omega), nI_or]
    congr 1
    unfold W4
    simp [c0, c1, c2, c3]
  · have c1 := h0 1 (by decide) (by decide)
    have c2 := h0 2 (by decide) (by decide)
    have c3 := h0 3 (by decide) (by decide)
    have e : (24 - 8 * nI 1) &&& 31 = nI 16 := by decide
    rw [e, nI_shl (by omega), nI_or]
    congr 1
    have e2 : W4 c = c 0 * 2 ^ 24 := by unfold W4; rw [c1, c2, c3]; omega
    rw [e2, oz _ _ _ (by omega)]
    unfold W4
    simp [c2, c3]
  · have c2 := h0 2 (by decide) (by decide)
    have c3 := h0 3 (by decide) (by decide)
    have e : (24 - 8 * nI 2) &&& 31 = nI 8 := by decide
    rw [e, nI_shl (by omega), nI_or]
    congr 1
    have e2 : W4 c = (c 0 * 2 ^ 8 + c 1) * 2 ^ 16 := by unfold W4; rw [c2, c3]; omega
    rw [e2, oz _ _ _ (by omega)]
    unfold W4
    simp [c3]
    omega
  · have c3 := h0 3 (by decide) (by decide)
    have e : (24 - 8 * nI 3) &&& 31 = nI 0 := by decide
    rw [e, nI_shl (by omega), nI_or]
    congr 1
    have e2 : W4 c = (c 0 * 2 ^ 16 + c 1 * 2 ^ 8 + c 2) * 2 ^ 8 := by unfold W4; rw [c3]; omega
    rw [e2, oz _ _ _ (by omega)]
    unfold W4
    simp
    omega
