/-! THE SETUP TEXT: len bytes tx, as functions -/
def runF (P : Nat → Bool) : Nat → Nat → Nat
  | 0, i => i
  | f + 1, i => if P i then runF P f (i + 1) else i
/-- the end of the run that begins at i -/
def run (P : Nat → Bool) (len i : Nat) : Nat := runF P (len - i) i
theorem run_on {P : Nat → Bool} {len i : Nat} (hi : i < len) (h : P i = true) : run P len i = run P len (i + 1) := by
  unfold run
  rw [show len - i = (len - (i + 1)) + 1 by omega]
  show (if P i then _ else _) = _
  rw [h, if_pos rfl]
theorem run_off {P : Nat → Bool} {len i : Nat} (h : P i = false) : run P len i = i := by
  unfold run
  cases hl : len - i with
  | zero => rfl
  | succ n =>
    show (if P i then _ else _) = _
    rw [h, if_neg (by decide)]
theorem run_end {P : Nat → Bool} {len i : Nat} (h : len ≤ i) : run P len i = i := by
  unfold run
  rw [show len - i = 0 by omega]
  rfl
theorem run_facts {P : Nat → Bool} {len : Nat} : ∀ (f i : Nat), len - i = f → i ≤ run P len i ∧ run P len i ≤ max i len ∧ (∀ j, i ≤ j → j < run P len i → P j = true ∧ j < len) ∧ (run P len i < len → P (run P len i) = false)
  | 0, i, hf => by
    rw [run_end (by omega)]
    exact ⟨Nat.le_refl _, by omega, fun j h1 h2 => by omega, fun h => by omega⟩
  | f + 1, i, hf => by
    cases h : P i
    · rw [run_off h]
      exact ⟨Nat.le_refl _, by omega, fun j h1 h2 => by omega, fun _ => h⟩
    · rw [run_on (by omega) h]
      obtain ⟨h1, h2, h3, h4⟩ := run_facts (P := P) (len := len) f (i + 1) (by omega)
      refine ⟨by omega, by omega, fun j g1 g2 => ?_, h4⟩
      by_cases g : j = i
      · rw [g]; exact ⟨h, by omega⟩
      · exact h3 j (by omega) g2
theorem run_ge (P : Nat → Bool) (len i : Nat) : i ≤ run P len i := (run_facts _ i rfl).1
theorem run_le {P : Nat → Bool} {len i : Nat} (h : i ≤ len) : run P len i ≤ len := by have := (run_facts (P := P) (len := len) _ i rfl).2.1; omega
section TXT
variable (tx : Nat → Nat) (len : Nat)
/-- behind the spaces -/
def sk (i : Nat) : Nat := run (fun j => decide (tx j = 32)) len i
def bt (i : Nat) : Int32 := if i < len then nI (tx i) else -1
def isDg (i : Nat) : Bool := decide (i < len) && (decide (48 ≤ tx i) && decide (tx i ≤ 57))
def isLt (i : Nat) : Bool := decide (i < len) && (decide (97 ≤ tx i) && decide (tx i ≤ 122))
def wl (w : Nat) : Nat := strL.getD w 0
def wch (w k : Nat) : Nat := nz (chr w k)
/-- the first k signs of word w stand at i -/
def mtF (w i : Nat) : Nat → Bool
  | 0 => true
  | k + 1 => mtF w i k && (decide (i + k < len) && decide (tx (i + k) = wch w k))
def pWd (w at_ : Nat) : Bool × Nat := if mtF tx len w (sk tx len at_) (wl w) && !isLt tx len (sk tx len at_ + wl w) then (true, sk tx len at_ + wl w) else (false, sk tx len at_)
/-- the number that the first k digits at i tell -/
def tv (i : Nat) : Nat → Nat
  | 0 => 0
  | k + 1 => 10 * tv i k + (tx (i + k) - 48)
def dgE (i : Nat) : Nat := run (isDg tx len) len i
/-- an error and where it is, or what is read and where it ends -/
abbrev Rd (α : Type) : Type := (Int32 × Nat) ⊕ (Nat × α)
def pNum (lo hi at_ : Nat) : Rd Nat :=
  if isDg tx len (sk tx len at_) then
    (if lo ≤ tv tx (sk tx len at_) (dgE tx len (sk tx len at_) - sk tx len at_) ∧ tv tx (sk tx len at_) (dgE tx len (sk tx len at_) - sk tx len at_) ≤ hi then .inr (dgE tx len (sk tx len at_), tv tx (sk tx len at_) (dgE tx len (sk tx len at_) - sk tx len at_)) else .inl (-3, sk tx len at_))
  else .inl (-2, sk tx len at_)
def pSemi (at_ : Nat) : Rd Unit := if bt tx len (sk tx len at_) = nI 59 then .inr (sk tx len at_ + 1, ()) else .inl (-2, sk tx len at_)
end TXT
section TXU
variable {tx : Nat → Nat} {len i at_ : Nat}
theorem sk_ge (i : Nat) : i ≤ sk tx len i := run_ge _ _ _
theorem sk_le (h : i ≤ len) : sk tx len i ≤ len := run_le h
theorem sk_stop (h : sk tx len i < len) : tx (sk tx len i) ≠ 32 := by
  have := (run_facts (P := fun j => decide (tx j = 32)) (len := len) _ i rfl).2.2.2 h
  exact of_decide_eq_false this
theorem sk_sk (i : Nat) (h : i ≤ len) : sk tx len (sk tx len i) = sk tx len i := by
  rcases Nat.lt_or_ge (sk tx len i) len with g | g
  · exact run_off (decide_eq_false (sk_stop g))
  · exact run_end g
theorem isLt_iff : isLt tx len i = true ↔ i < len ∧ 97 ≤ tx i ∧ tx i ≤ 122 := by unfold isLt; simp
theorem isDg_iff : isDg tx len i = true ↔ i < len ∧ 48 ≤ tx i ∧ tx i ≤ 57 := by unfold isDg; simp
theorem mtF_iff {w : Nat} : ∀ k, mtF tx len w i k = true ↔ ∀ j, j < k → i + j < len ∧ tx (i + j) = wch w j
  | 0 => ⟨fun _ j hj => absurd hj (Nat.not_lt_zero _), fun _ => rfl⟩
  | k + 1 => by
    unfold mtF
    simp only [Bool.and_eq_true, decide_eq_true_eq, mtF_iff k]
    constructor
    · rintro ⟨h1, h2⟩ j hj
      by_cases g : j = k
      · rw [g]; exact h2
      · exact h1 j (by omega)
    · intro h
      exact ⟨fun j hj => h j (by omega), h k (Nat.lt_succ_self k)⟩
theorem wch_let {w k : Nat} (hw : w < 6) (hk : k < wl w) : 97 ≤ wch w k ∧ wch w k ≤ 122 ∧ chr w k = nI (wch w k) := by
  have h : ∀ w, w < 6 → ∀ k, k < wl w → 97 ≤ wch w k ∧ wch w k ≤ 122 ∧ chr w k = nI (wch w k) := by decide +kernel
  exact h w hw k hk
theorem wl_le {w : Nat} (hw : w < 6) : wl w ≤ 7 ∧ 4 ≤ wl w := by
  have h : ∀ w, w < 6 → wl w ≤ 7 ∧ 4 ≤ wl w := by decide +kernel
  exact h w hw
theorem pWd_le {w : Nat} (h : at_ ≤ len) (hw : w < 6) : (pWd tx len w at_).2 ≤ len ∧ at_ ≤ (pWd tx len w at_).2 := by
  have h1 := sk_ge (tx := tx) (len := len) at_
  have h2 := sk_le (tx := tx) h
  unfold pWd
  split
  · next c =>
    simp only [Bool.and_eq_true] at c
    have := (wl_le hw).2
    have h3 := (mtF_iff (wl w)).mp c.1 (wl w - 1) (by omega)
    exact ⟨by dsimp only; omega, by dsimp only; omega⟩
  · exact ⟨h2, h1⟩
theorem dgE_le (h : i ≤ len) : dgE tx len i ≤ len := run_le h
theorem dgE_gt (h : isDg tx len i = true) : i < dgE tx len i := by
  have := (isDg_iff.mp h).1
  unfold dgE
  rw [run_on this h]
  exact run_ge _ _ _
theorem pNum_r {lo hi a v : Nat} (h : at_ ≤ len) (hp : pNum tx len lo hi at_ = .inr (a, v)) : a ≤ len ∧ at_ < a ∧ lo ≤ v ∧ v ≤ hi := by
  unfold pNum at hp
  split at hp
  · next c =>
    split at hp
    · next g =>
      cases hp
      have h1 := sk_ge (tx := tx) (len := len) at_
      have h2 := dgE_gt c
      exact ⟨dgE_le (sk_le h), by omega, g.1, g.2⟩
    · cases hp
  · cases hp
theorem pNum_l {lo hi o : Nat} {c : Int32} (h : at_ ≤ len) (hp : pNum tx len lo hi at_ = .inl (c, o)) : (c = -2 ∨ c = -3) ∧ o = sk tx len at_ := by
  unfold pNum at hp
  split at hp
  · split at hp
    · cases hp
    · cases hp; exact ⟨Or.inr rfl, rfl⟩
  · cases hp; exact ⟨Or.inl rfl, rfl⟩
theorem pSemi_r {a : Nat} {u : Unit} (h : at_ ≤ len) (hp : pSemi tx len at_ = .inr (a, u)) : a ≤ len ∧ at_ < a := by
  unfold pSemi at hp
  split at hp
  · next c =>
    cases hp
    have h1 := sk_ge (tx := tx) (len := len) at_
    unfold bt at c
    split at c
    · exact ⟨by omega, by omega⟩
    · exact absurd c (by decide)
  · cases hp
/-- the digits' number is more than any range, or what the digits tell -/
theorem tv_cap (cap : Nat) (hc : 10 ≤ cap) (i k : Nat) : min cap (10 * min cap (tv tx i k) + (tx (i + k) - 48)) = min cap (tv tx i (k + 1)) := by
  show _ = min cap (10 * tv tx i k + (tx (i + k) - 48))
  omega
end TXU
