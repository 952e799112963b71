/-! STRINGS AND THEIR BUILDER -/
def STR (m : Mu) (v : Nat) (L : List Nat) : Prop := ∃ a h1 h2 f, mS m v = some (some a, 0, h1, h2) ∧ mT m a = some (L.length, f) ∧ ∀ k, k < L.length → f k = nI (L.getD k 0) ∧ L.getD k 0 < 128
def BLD (m : Mu) (v : Nat) (L : List Nat) : Prop := ∃ a h f, mG m v = some (some a, 0, h, nI L.length) ∧ mT m a = some (16, f) ∧ ∀ k, k < L.length → f k = nI (L.getD k 0) ∧ L.getD k 0 < 128
theorem fx_toT {e : Nat → Nat → Prop} {m0 m : Mu} {a : Nat} {x : ceI} (h : Fx e m0 m) (h0 : mT m0 a = none) : Fx e m0 (sT m a x) :=
  ⟨h.1, h.2.1, h.2.2.1, h.2.2.2.1, h.2.2.2.2.1, h.2.2.2.2.2.1, fun k y hy => up_k (fun z => by subst z; rw [h0] at hy; cases hy) (h.2.2.2.2.2.2.1 k y hy), h.2.2.2.2.2.2.2.1, h.2.2.2.2.2.2.2.2⟩
theorem fx_toS {e : Nat → Nat → Prop} {m0 m : Mu} {a : Nat} {x : ceS} (h : Fx e m0 m) (h0 : mS m0 a = none) : Fx e m0 (sS m a x) :=
  ⟨h.1, h.2.1, h.2.2.1, h.2.2.2.1, h.2.2.2.2.1, h.2.2.2.2.2.1, h.2.2.2.2.2.2.1, fun k y hy => up_k (fun z => by subst z; rw [h0] at hy; cases hy) (h.2.2.2.2.2.2.2.1 k y hy), h.2.2.2.2.2.2.2.2⟩
theorem fx_toG {e : Nat → Nat → Prop} {m0 m : Mu} {a : Nat} {x : ceG} (h : Fx e m0 m) (h0 : mG m0 a = none) : Fx e m0 (sG m a x) :=
  ⟨h.1, h.2.1, h.2.2.1, h.2.2.2.1, h.2.2.2.2.1, h.2.2.2.2.2.1, h.2.2.2.2.2.2.1, h.2.2.2.2.2.2.2.1, fun k y hy => up_k (fun z => by subst z; rw [h0] at hy; cases hy) (h.2.2.2.2.2.2.2.2 k y hy)⟩
theorem Fx.T {e : Nat → Nat → Prop} {m m' : Mu} {a : Nat} {x : ceI} (h : Fx e m m') (y : mT m a = some x) : mT m' a = some x := h.2.2.2.2.2.2.1 a x y
theorem Fx.S {e : Nat → Nat → Prop} {m m' : Mu} {a : Nat} {x : ceS} (h : Fx e m m') (y : mS m a = some x) : mS m' a = some x := h.2.2.2.2.2.2.2.1 a x y
theorem Fx.G {e : Nat → Nat → Prop} {m m' : Mu} {a : Nat} {x : ceG} (h : Fx e m m') (y : mG m a = some x) : mG m' a = some x := h.2.2.2.2.2.2.2.2 a x y
theorem Fx.noT {e : Nat → Nat → Prop} {m m' : Mu} {a : Nat} (h : Fx e m m') (y : mT m' a = none) : mT m a = none := by
  cases h9 : mT m a with
  | none => rfl
  | some x => rw [h.T h9] at y; cases y
theorem Fx.noS {e : Nat → Nat → Prop} {m m' : Mu} {a : Nat} (h : Fx e m m') (y : mS m' a = none) : mS m a = none := by
  cases h9 : mS m a with
  | none => rfl
  | some x => rw [h.S h9] at y; cases y
theorem Fx.noG {e : Nat → Nat → Prop} {m m' : Mu} {a : Nat} (h : Fx e m m') (y : mG m' a = none) : mG m a = none := by
  cases h9 : mG m a with
  | none => rfl
  | some x => rw [h.G h9] at y; cases y
section STRS
variable {e : Nat → Nat → Prop} {m0 m m' : Mu} {v : Nat} {L : List Nat} {cB : Nat}
theorem STR.fx (h : STR m v L) (f : Fx e m m') : STR m' v L := by
  obtain ⟨a, h1, h2, g, k1, k2, k3⟩ := h
  exact ⟨a, h1, h2, g, f.S k1, f.T k2, k3⟩
theorem bld_init {Post : Mu → Prop} {x : ceG} (hf : Fx e m0 m) (hv : mG m0 v = none) (hx : mG m v = some x) (h4 : x.2.2.2 = 0) (hcB : 2 ≤ cB) (hP : ∀ m', Fx e m0 m' → BLD m' v [] → (∀ a h f, mG m' v = some (some a, 0, h, f) → mT m0 a = none) → Post m') : wpJ4_init_da8c8 cB m v Post := by
  unfold wpJ4_init_da8c8 wpJ5_init_d00df
  refine ⟨2, by omega, 16, rfl, by decide, by decide, fun a ha mu2 e2 => ⟨x, (by rw [e2]; exact hx), fun mu4 e4 => ⟨(some a, x.2.1, x.2.2.1, x.2.2.2), (by rw [e4]; exact up_s), fun mu6 e6 => ⟨by decide, by omega, hP mu6 ?_ ⟨a, x.2.2.1, fun _ => 0, ?_, ?_, fun k hk => absurd hk (Nat.not_lt_zero _)⟩ (fun b h f hb => ?_)⟩⟩⟩⟩
  · rw [e6, e4, e2]
    exact fx_toG (fx_toG (fx_toT hf (hf.noT ha.2.2.2.2.2.2.1)) hv) hv
  · rw [e6, h4]
    exact up_s
  · rw [e6]
    show mT mu4 a = _
    rw [e4]
    show mT mu2 a = _
    rw [e2]
    exact up_s
  · rw [e6] at hb
    have hb : va_up _ _ _ _ = _ := hb
    rw [up_s] at hb
    cases hb
    exact hf.noT ha.2.2.2.2.2.2.1
theorem sby_stL : ∀ i, i < 10 → ∀ k, k < (stL i).length → sby i k = nI ((stL i).getD k 0) ∧ (stL i).getD k 0 < 128 := by decide +kernel
theorem le16 : ∀ k, k < 17 → nI k - nI 16 ≤ 0 := by decide
theorem bld_app {Post : Nat → Mu → Prop} {i : Nat} (hi : i < 10) (hf : Fx e m0 m) (hv : mG m0 v = none) (hB : BLD m v L) (hT0 : ∀ a h f, mG m v = some (some a, 0, h, f) → mT m0 a = none) (hl : L.length + (stL i).length ≤ 16) (hP : ∀ m', Fx e m0 m' → BLD m' v (L ++ stL i) → (∀ a h f, mG m' v = some (some a, 0, h, f) → mT m0 a = none) → Post v m') : wpJ4_append_15ec4_K m v i Post := by
  obtain ⟨a, h, f, hG, hT, hL⟩ := hB
  have hls := stL_len i hi
  rw [← Nat.add_zero (strL.getD i 0)] at hls
  have hls : strL.getD i 0 = (stL i).length := by omega
  unfold wpJ4_append_15ec4_K wpJ5_append_cf1ce_K wpJ5_ensureCapacityInternal_d00df wpJ5_putStringAt_47b60_K wpJ5_inflateIfNeededFor_a7421_K wpJ0_getBytes_840e7_K
  refine ⟨_, hG, _, hG, _, hG, _, hG, a, rfl, 16, f, hT, _, hG, fun _ => ⟨_, hG, _, hG, _, hG, _, hG, fun _ => ⟨_, hG, a, rfl, _, hG, fun z => absurd rfl z, fun _ => ⟨16, f, L.length, (stL i).length, hT, ?_, by rw [hls], rfl, by omega, hl, by decide, fun mu5 e5 => ⟨(some a, 0, h, nI L.length), (by rw [e5]; exact hG), (some a, 0, h, nI L.length), (by rw [e5]; exact hG), fun mu10 e10 => ?_⟩⟩⟩, fun z => absurd rfl z⟩, fun z => absurd ?_ z⟩
  · show nI L.length <<< ((0 : Int32) &&& 31) = _
    rw [show ((0 : Int32) &&& 31) = nI 0 by decide, nI_shl (by omega)]
    rw [show L.length * 2 ^ 0 = L.length by omega]
  · have fF : Fx e m0 mu10 := by
      rw [e10, e5]
      exact fx_toG (fx_toT hf (hT0 a _ _ hG)) hv
    have g10 : mG mu10 v = some (some a, 0, h, nI (L ++ stL i).length) := by
      rw [e10, hls]
      show va_up _ _ _ _ = _
      rw [up_s]
      show some (some a, 0, h, nI L.length + nI (stL i).length) = _
      rw [nI_add, List.length_append]
    refine hP mu10 fF ⟨a, h, _, g10, (by rw [e10, e5]; exact up_s), fun k hk => ?_⟩ (fun a' h' f' hg => ?_)
    · rw [List.length_append] at hk
      rw [gd_map]
      unfold va_cpy
      by_cases y : k < L.length
      · rw [if_pos y, if_neg (by omega)]
        exact hL k y
      · rw [if_neg y, if_pos (by omega)]
        have := sby_stL i hi (k - L.length) (by omega)
        rw [Nat.zero_add]
        exact this
    · rw [g10] at hg
      cases hg
      exact hT0 a _ _ hG
  · show (nI L.length + nI (strL.getD i 0)) - (nI 16 >>> ((0 : Int32) &&& 31)) ≤ 0
    rw [hls, nI_add, show (nI 16 >>> ((0 : Int32) &&& 31)) = nI 16 by decide]
    exact le16 _ (by omega)
theorem fit128 : ∀ k, k < 128 → fits .byte (.int (nI k)) = true := by decide
theorem bld_str {Post : Nat → Mu → Prop} (hf : Fx e m0 m) (hB : BLD m v L) (hl : L.length < 16) (hcB : 2 ≤ cB) (hP : ∀ m' r, Fx e m0 m' → STR m' r L → Post r m') : wpJ4_toString_0e30d cB m v Post := by
  obtain ⟨a, h, f, hG, hT, hL⟩ := hB
  unfold wpJ4_toString_0e30d wpJ0_init_81219 wpJ0_init_db425 wpJ5_getValue_6d5f1 wpJ4_length_8abf5 wpJ5_length_8abf5 wpJ5_isLatin1_aae02 wpJ7_copyOfRange_39247 wpJ7_copyOfRange_39247_b10 wpJ7_copyOfRangeByte_39247 wpJ7_checkLength_df160
  refine ⟨by omega, fun r hr mu2 e2 => ⟨1, by omega, 1, by decide, ?_⟩⟩
  have G2 : mG mu2 v = some (some a, 0, h, nI L.length) := by rw [e2]; exact hG
  refine ⟨_, G2, by decide, _, G2, a, rfl, _, G2, by decide, _, G2, _, G2, _, G2, by decide, _, G2, fun z => absurd rfl z, fun _ => ⟨fun z => absurd z (by decide), fun _ => ⟨(none, 0, 0, 0), (by rw [e2]; exact up_s), fun mu8 e8 => ⟨1, by decide, fun z => absurd rfl z, fun _ => ⟨16, f, (by rw [e8, e2]; exact hT), fun z => ?_, fun _ => ⟨1, by decide, by decide, fun _ => ⟨L.length, ?_, by omega, by omega, fun a2 ha2 mu3 e3 => ?_⟩, fun z => absurd ?_ z⟩⟩⟩⟩⟩⟩
  · have z : nI L.length = nI 16 := z
    rw [nI_eq (by omega) (by decide)] at z
    omega
  · show nI L.length - nI 0 = _
    rw [sm_sub (Nat.zero_le _), Nat.sub_zero]
  · have hne : a ≠ a2 := fun z => by
      have := ha2.2.2.2.2.2.2.1
      rw [← z, e8, e2] at this
      rw [show mT (sS (sS m r _) r _) a = mT m a from rfl, hT] at this
      cases this
    have T3 : mT mu3 a = some (16, f) := by rw [e3]; exact up_k hne (by rw [e8, e2]; exact hT)
    have T3' : mT mu3 a2 = some (L.length, fun _ => 0) := by rw [e3]; exact up_s
    refine ⟨16, f, T3, by omega, 16, f, L.length, fun _ => 0, 0, 0, L.length, T3, T3', rfl, ?_, rfl, by omega, by omega, by decide, by omega, fun k hk => ?_, fun mu6 e6 => ⟨by omega, by omega, (none, 0, 0, 0), ?_, fun mu13 e13 => ⟨by omega, by omega, by omega, hP mu13 r ?_ ⟨a2, 0, 0, va_cpy f (fun _ => 0) 0 0 L.length, ?_, ?_, fun k hk => ?_⟩⟩⟩⟩
    · show (if nI L.length - nI 0 < nI 16 - nI 0 then nI L.length - nI 0 else nI 16 - nI 0) = _
      rw [sm_sub (Nat.zero_le _), sm_sub (Nat.zero_le _), Nat.sub_zero, Nat.sub_zero, if_pos ((nI_ltI (by omega) (by decide)).mpr hl)]
    · rw [Nat.zero_add, (hL k hk).1]
      exact fit128 _ (hL k hk).2
    · rw [e6, e3, e8]
      exact up_s
    · rw [e13, e6, e3, e8, e2]
      have n1 := hf.noS hr.2.2.2.2.2.2.2.1
      have n2 : mT m0 a2 = none := by
        have := ha2.2.2.2.2.2.2.1
        rw [e8, e2] at this
        exact hf.noT this
      exact fx_toS (fx_toT (fx_toT (fx_toS (fx_toS hf n1) n1) n2) n2) n1
    · rw [e13]
      exact up_s
    · rw [e13, e6]
      exact up_s
    · unfold va_cpy
      rw [if_pos (by omega), Nat.zero_add, Nat.sub_zero]
      exact hL k hk
  · show nI 0 ≤ nI L.length
    rw [nI_leI (by decide) (by omega)]
    omega
end STRS
