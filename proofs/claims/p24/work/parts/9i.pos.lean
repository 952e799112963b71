/-! PLACES OF LINES: how many lines stand ahead of a paragraph; where pages begin among all lines -/
def lp (d : Nat → Int32) (sg : Nat → Nat) (p : Nat) : Nat := sumN (fun x => cnt d x (sg x)) p
def fst1 (d : Nat → Int32) (sg : Nat → Nat) (q : Pl) (i : Nat) : Nat := lp d sg (q.2.1 i) + q.2.2.1 i
/-- a plan of the first T lines -/
def PQ (d : Nat → Int32) (sg : Nat → Nat) (q : Pl) (T : Nat) : Prop :=
  (∀ i, i < q.1 → q.2.1 i < dP d ∧ q.2.2.1 i < cnt d (q.2.1 i) (sg (q.2.1 i)) ∧ 1 ≤ q.2.2.2 i) ∧ (∀ i, i < q.1 → fst1 d sg q i + q.2.2.2 i = if i + 1 < q.1 then fst1 d sg q (i + 1) else T) ∧ (0 < q.1 → fst1 d sg q 0 = 0) ∧ (q.1 = 0 → T = 0)
section POS
variable {d : Nat → Int32} {sg : Nat → Nat} {q : Pl} {p line T : Nat}
theorem lp_s (p : Nat) : lp d sg (p + 1) = lp d sg p + cnt d p (sg p) := rfl
theorem lp_mono {a b : Nat} (h : a ≤ b) : lp d sg a ≤ lp d sg b := by
  induction b with
  | zero => rw [Nat.le_zero.mp h]; exact Nat.le_refl _
  | succ n ih =>
    rcases Nat.lt_or_eq_of_le h with h | h
    · exact Nat.le_trans (ih (Nat.le_of_lt_succ h)) (by rw [lp_s]; omega)
    · rw [h]; exact Nat.le_refl _
theorem lp_lt {a b l1 : Nat} (h : a < b) (h1 : l1 < cnt d a (sg a)) : lp d sg a + l1 < lp d sg b := by
  have := lp_mono (d := d) (sg := sg) (show a + 1 ≤ b from h)
  rw [lp_s] at this
  omega
theorem PQ_0 : PQ d sg pl0 0 := ⟨fun i h => absurd h (Nat.not_lt_zero _), fun i h => absurd h (Nat.not_lt_zero _), fun h => absurd h (Nat.lt_irrefl _), fun _ => rfl⟩
theorem PQ_add {e : Bool} (h : PQ d sg q (lp d sg p + line)) (hp : p < dP d) (hl : line < cnt d p (sg p)) : PQ d sg (addL q p line e) (lp d sg p + (line + 1)) := by
  obtain ⟨h1, h2, h3, h4⟩ := h
  by_cases hc : e = true ∨ q.1 = 0
  · rw [addL_new hc]
    refine ⟨fun i hi => ?_, fun i hi => ?_, fun _ => ?_, fun z => absurd z (Nat.succ_ne_zero _)⟩
    · have hi : i < q.1 + 1 := hi
      show upN q.2.1 q.1 p i < dP d ∧ upN q.2.2.1 q.1 line i < cnt d (upN q.2.1 q.1 p i) (sg (upN q.2.1 q.1 p i)) ∧ 1 ≤ upN q.2.2.2 q.1 1 i
      by_cases g : i = q.1
      · subst g
        rw [upN_s, upN_s, upN_s]
        exact ⟨hp, hl, Nat.le_refl _⟩
      · rw [upN_n g, upN_n g, upN_n g]
        exact h1 i (by omega)
    · have hi : i < q.1 + 1 := hi
      show lp d sg (upN q.2.1 q.1 p i) + upN q.2.2.1 q.1 line i + upN q.2.2.2 q.1 1 i = if i + 1 < q.1 + 1 then lp d sg (upN q.2.1 q.1 p (i + 1)) + upN q.2.2.1 q.1 line (i + 1) else lp d sg p + (line + 1)
      by_cases g : i = q.1
      · subst g
        rw [upN_s, upN_s, upN_s, if_neg (by omega)]
        omega
      · have h2i := h2 i (by omega)
        rw [upN_n g, upN_n g, upN_n g, if_pos (by omega)]
        by_cases g2 : i + 1 = q.1
        · rw [g2, upN_s, upN_s]
          rw [if_neg (by omega)] at h2i
          exact h2i
        · rw [upN_n g2, upN_n g2]
          rw [if_pos (by omega)] at h2i
          exact h2i
    · show lp d sg (upN q.2.1 q.1 p 0) + upN q.2.2.1 q.1 line 0 = 0
      by_cases g : q.1 = 0
      · rw [g, upN_s, upN_s]
        exact h4 g
      · rw [upN_n (fun z => g z.symm), upN_n (fun z => g z.symm)]
        exact h3 (by omega)
  · rw [addL_old hc]
    have hq : q.1 ≠ 0 := fun z => hc (Or.inr z)
    refine ⟨fun i hi => ?_, fun i hi => ?_, fun z => h3 z, fun z => absurd z hq⟩
    · have hi : i < q.1 := hi
      have := h1 i hi
      show q.2.1 i < dP d ∧ q.2.2.1 i < cnt d (q.2.1 i) (sg (q.2.1 i)) ∧ 1 ≤ upN q.2.2.2 (q.1 - 1) (q.2.2.2 (q.1 - 1) + 1) i
      refine ⟨this.1, this.2.1, ?_⟩
      by_cases g : i = q.1 - 1
      · rw [g, upN_s]; omega
      · rw [upN_n g]; exact this.2.2
    · have hi : i < q.1 := hi
      have h2i := h2 i hi
      show lp d sg (q.2.1 i) + q.2.2.1 i + upN q.2.2.2 (q.1 - 1) (q.2.2.2 (q.1 - 1) + 1) i = if i + 1 < q.1 then lp d sg (q.2.1 (i + 1)) + q.2.2.1 (i + 1) else lp d sg p + (line + 1)
      unfold fst1 at h2i
      by_cases g : i = q.1 - 1
      · have e : ¬ i + 1 < q.1 := by omega
        rw [if_neg e] at h2i
        rw [if_neg e, g, upN_s]
        rw [g] at h2i
        omega
      · rw [upN_n g]
        rw [if_pos (by omega)] at h2i ⊢
        exact h2i
theorem PQ_lyL {f : Nat → Nat → Bool} (h : PQ d sg q (lp d sg p)) (hp : p < dP d) : ∀ k, k ≤ cnt d p (sg p) → PQ d sg (lyL p f q k) (lp d sg p + k)
  | 0, _ => h
  | k + 1, hk => PQ_add (PQ_lyL h hp k (by omega)) hp (by omega)
theorem PQ_lyP : ∀ p, p ≤ dP d → PQ d sg (lyP d sg p) (lp d sg p)
  | 0, _ => PQ_0
  | p + 1, hp => PQ_lyL (PQ_lyP p (by omega)) (by omega) _ (Nat.le_refl _)
theorem PQ_lyB : ∀ p, p ≤ dP d → PQ d (sgB d) (lyB d p) (lp d (sgB d) p)
  | 0, _ => PQ_0
  | p + 1, hp => PQ_lyL (sg := sgB d) (f := enB d p (stB d p (lyB d p))) (PQ_lyB p (by omega)) (by omega) _ (Nat.le_refl (cnt d p (sgB d p)))
/-- every page begins behind the page ahead of it -/
theorem PQ.inc (h : PQ d sg q T) {i : Nat} (hi : i + 1 < q.1) : fst1 d sg q i < fst1 d sg q (i + 1) := by
  have h2 := h.2.1 i (by omega)
  rw [if_pos hi] at h2
  have := (h.1 i (by omega)).2.2
  omega
theorem PQ.pos (h : PQ d sg q T) : ∀ {i : Nat}, 0 < i → i < q.1 → 0 < fst1 d sg q i
  | 0, h0, _ => absurd h0 (Nat.lt_irrefl _)
  | i + 1, _, hi => by have := h.inc hi; omega
theorem PQ.p0 (h : PQ d sg q T) {i : Nat} (h0 : 0 < i) (hi : i < q.1) (hl : q.2.2.1 i = 0) : 0 < q.2.1 i := by
  have := h.pos h0 hi
  unfold fst1 at this
  rw [hl] at this
  rcases Nat.eq_zero_or_pos (q.2.1 i) with z | z
  · rw [z] at this
    exact absurd this (by show ¬ 0 < 0 + 0; omega)
  · exact z
theorem PQ.le (h : PQ d sg q T) : ∀ r i, i + r + 1 = q.1 → fst1 d sg q i + q.2.2.2 i ≤ T
  | 0, i, hi => by
    have := h.2.1 i (by omega)
    rw [if_neg (by omega)] at this
    omega
  | r + 1, i, hi => by
    have h2 := h.2.1 i (by omega)
    rw [if_pos (by omega)] at h2
    have := PQ.le h r (i + 1) (by omega)
    omega
theorem lp_small (hO : OkB d) (hs : ∀ p, p < dP d → dN d p ≤ 5) : ∀ p, p ≤ dP d → lp d sg p ≤ 5 * p
  | 0, _ => Nat.le_refl _
  | p + 1, hp => by
    have h1 := lp_small hO hs p (by omega)
    have h2 := brk_le d p (sg p) (dN d p)
    have h3 := hs p (by omega)
    rw [lp_s]
    unfold cnt
    omega
/-- pages are at most as many as lines -/
theorem PQ.len (h : PQ d sg q T) : q.1 ≤ T := by
  have key : ∀ i, i < q.1 → i ≤ fst1 d sg q i := by
    intro i
    induction i with
    | zero => exact fun _ => Nat.zero_le _
    | succ n ih => exact fun hi => by have := h.inc hi; have := ih (by omega); omega
  rcases Nat.eq_zero_or_pos q.1 with z | z
  · omega
  · have h1 := key (q.1 - 1) (by omega)
    have h2 := h.le 0 (q.1 - 1) (by omega)
    have h3 := (h.1 (q.1 - 1) (by omega)).2.2
    omega
end POS
