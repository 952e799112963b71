/-! APPENDED BYTES -/
theorem and255 (x : Int32) : x &&& 255 = nI (nz (x &&& 255)) ∧ nz (x &&& 255) < 256 := by
  have h1 : (x &&& 255).toBitVec.toNat ≤ 255 := by
    rw [show (x &&& 255).toBitVec = x.toBitVec &&& 255#32 from rfl, BitVec.toNat_and]
    exact Nat.and_le_right
  have h2 : x &&& 255 = nI (x &&& 255).toBitVec.toNat := by
    apply Int32.toBitVec_inj.mp
    show (x &&& 255).toBitVec = BitVec.ofNat 32 (x &&& 255).toBitVec.toNat
    rw [BitVec.ofNat_toNat, BitVec.setWidth_eq]
  have h3 : nz (x &&& 255) = (x &&& 255).toBitVec.toNat := by
    show (x &&& 255).toNatClampNeg = _
    generalize (x &&& 255).toBitVec.toNat = m at h1 h2
    rw [h2]
    exact nI_clamp (by omega)
  rw [h3]
  exact ⟨h2, by omega⟩
/-- the k-th byte of a -/
def byt (a : Int32) (k : Nat) : Nat := nz ((a >>> nI (24 - 8 * k)) &&& 255)
def app4 (tx : Nat → Nat) (n : Nat) (a : Int32) : Nat → Nat := fun i => if i < n then tx i else byt a (i - n)
def appT (tx : Nat → Nat) (n : Nat) (a1 a2 a3 a4 a5 : Int32) : Nat → Nat := app4 (app4 (app4 (app4 (app4 tx n a1) (n + 4) a2) (n + 8) a3) (n + 12) a4) (n + 16) a5
section APP
variable {tx : Nat → Nat} {n : Nat} {b : Nat → Int32} {a a1 a2 a3 a4 a5 : Int32}
theorem app4_b {k : Nat} : nI (app4 tx n a (n + k)) = (a >>> nI (24 - 8 * k)) &&& 255 := by
  unfold app4 byt
  rw [if_neg (by omega), show n + k - n = k by omega]
  exact (and255 _).1.symm
theorem app4_lt {k : Nat} : app4 tx n a (n + k) < 256 := by
  unfold app4 byt
  rw [if_neg (by omega)]
  exact (and255 _).2
theorem app4_T {b' : Nat → Int32} (h0 : n + 4 ≤ 700) (hT : TX tx n b) (h : ∀ i, i < n → b' i = b i) (hb : ∀ k, k < 4 → b' (n + k) = (a >>> nI (24 - 8 * k)) &&& 255) : TX (app4 tx n a) (n + 4) b' := by
  refine ⟨h0, fun i hi => ?_⟩
  rcases Nat.lt_or_ge i n with g | g
  · have := hT.2 i g
    rw [h i g]
    unfold app4
    rw [if_pos g]
    exact this
  · obtain ⟨k, rfl⟩ : ∃ k, i = n + k := ⟨i - n, by omega⟩
    rw [hb k (by omega), app4_b]
    exact ⟨rfl, app4_lt⟩
theorem addBytes_s {Post : Int32 → (Nat → Int32) → Prop} (h0 : n + 4 ≤ 700) (hT : TX tx n b) (h : ∀ b', TX (app4 tx n a) (n + 4) b' → Post (nI (n + 4)) b') : wpX6_addBytes (nI n) b a Post := by
  have step : ∀ (m k : Nat) (x : Int32) (q : Nat → Int32), k < 4 → ¬ x < 0 → x &&& 31 = nI (24 - 8 * k) → wpX6_addBytes_L3 a Post m (nI (n + (k + 1))) (upd q (n + k) ((a >>> nI (24 - 8 * k)) &&& 255)) (x + -8) → wpX6_addBytes_L3 a Post (m + 1) (nI (n + k)) q x := fun m k x q hk h1 h2 h3 => by
    unfold wpX6_addBytes_L3
    refine ⟨fun z => absurd z h1, fun _ => ?_⟩
    rw [put_e (by omega) (by decide), h2, nI_1]
    exact h3
  unfold wpX6_addBytes
  refine ⟨5, ?_⟩
  refine step 4 0 24 b (by decide) (by decide) (by decide) ?_
  refine step 3 1 _ _ (by decide) (by decide) (by decide) ?_
  refine step 2 2 _ _ (by decide) (by decide) (by decide) ?_
  refine step 1 3 _ _ (by decide) (by decide) (by decide) ?_
  unfold wpX6_addBytes_L3
  refine ⟨fun _ => h _ (app4_T h0 hT (fun i hi => ?_) (fun k hk => ?_)), fun z => absurd (by decide) z⟩
  · rw [pk_un (by omega), pk_un (by omega), pk_un (by omega), pk_un (by omega)]
  · have : k = 0 ∨ k = 1 ∨ k = 2 ∨ k = 3 := by omega
    rcases this with rfl | rfl | rfl | rfl
    · rw [pk_un (by omega), pk_un (by omega), pk_un (by omega), pk_us]
    · rw [pk_un (by omega), pk_un (by omega), pk_us]
    · rw [pk_un (by omega), pk_us]
    · rw [pk_us]
theorem append_s {Post : Int32 → Int32 → (Nat → Int32) → Prop} (hT : TX tx n b) (h1 : n + 20 ≤ 700 → ∀ b', TX (appT tx n a1 a2 a3 a4 a5) (n + 20) b' → Post (nI (n + 20)) (nI (n + 20)) b') (h0 : 700 < n + 20 → Post (-1) (nI n) b) : wpX6_append (nI n) b a1 a2 a3 a4 a5 Post := by
  have h7 := hT.1
  unfold wpX6_append
  rw [li20, nI_add, show (700 : Int32) = nI 700 from rfl, nI_leI (by omega) (by decide)]
  refine ⟨fun g => ?_, fun g => h0 (by omega)⟩
  refine addBytes_s (by omega) hT (fun b1 hT1 => ?_)
  refine addBytes_s (by omega) hT1 (fun b2 hT2 => ?_)
  refine addBytes_s (by omega) hT2 (fun b3 hT3 => ?_)
  refine addBytes_s (by omega) hT3 (fun b4 hT4 => ?_)
  refine addBytes_s (by omega) hT4 (fun b5 hT5 => ?_)
  exact h1 g b5 hT5
/-- the five ints -/
def sel5 (a1 a2 a3 a4 a5 : Int32) (q : Nat) : Int32 := if q = 0 then a1 else if q = 1 then a2 else if q = 2 then a3 else if q = 3 then a4 else a5
theorem appT_lo {i : Nat} (h : i < n) : appT tx n a1 a2 a3 a4 a5 i = tx i := by
  unfold appT app4
  rw [if_pos (by omega), if_pos (by omega), if_pos (by omega), if_pos (by omega), if_pos (by omega)]
theorem appT_hi {k : Nat} (h : k < 20) : nI (appT tx n a1 a2 a3 a4 a5 (n + k)) = (sel5 a1 a2 a3 a4 a5 (k / 4) >>> nI (24 - 8 * (k % 4))) &&& 255 ∧ appT tx n a1 a2 a3 a4 a5 (n + k) < 256 := by
  have e : appT tx n a1 a2 a3 a4 a5 (n + k) = byt (sel5 a1 a2 a3 a4 a5 (k / 4)) (k % 4) := by
    unfold appT app4 sel5
    have : k / 4 = 0 ∨ k / 4 = 1 ∨ k / 4 = 2 ∨ k / 4 = 3 ∨ k / 4 = 4 := by omega
    rcases this with g | g | g | g | g
    · rw [if_pos (by omega), if_pos (by omega), if_pos (by omega), if_pos (by omega), if_neg (by omega), if_pos g]
      exact congrArg (byt _) (by omega)
    · rw [if_pos (by omega), if_pos (by omega), if_pos (by omega), if_neg (by omega), if_neg (by omega), if_pos g]
      exact congrArg (byt _) (by omega)
    · rw [if_pos (by omega), if_pos (by omega), if_neg (by omega), if_neg (by omega), if_neg (by omega), if_pos g]
      exact congrArg (byt _) (by omega)
    · rw [if_pos (by omega), if_neg (by omega), if_neg (by omega), if_neg (by omega), if_neg (by omega), if_pos g]
      exact congrArg (byt _) (by omega)
    · rw [if_neg (by omega), if_neg (by omega), if_neg (by omega), if_neg (by omega), if_neg (by omega)]
      exact congrArg (byt _) (by omega)
  rw [e]
  exact ⟨(and255 _).1.symm, (and255 _).2⟩
theorem sh20 (k : Nat) (h : k < 20) : (24 - (8 * (nI k - nI k / 4 * 4))) &&& 31 = nI (24 - 8 * (k % 4)) := by
  have : ∀ k, k < 20 → (24 - (8 * (nI k - nI k / 4 * 4))) &&& 31 = nI (24 - 8 * (k % 4)) := by decide
  exact this k h
end APP
