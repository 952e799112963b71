/-! PLANS' NUMBERS ARE SMALL -/
def PlIn (d : Nat → Int32) (q : Pl) (n : Nat) : Prop := ∀ k, k < q.1 → q.2.1 k < n ∧ q.2.2.1 k < 30 ∧ 1 ≤ q.2.2.2 k ∧ q.2.2.2 k ≤ dH d
theorem PlIn.up {d : Nat → Int32} {q : Pl} {n m : Nat} (h : PlIn d q n) (hm : n ≤ m) : PlIn d q m := fun k hk => ⟨Nat.lt_of_lt_of_le (h k hk).1 hm, (h k hk).2⟩
theorem PlIn.on {d : Nat → Int32} {q : Pl} {n : Nat} (h : PlIn d q n) : onP q ≤ dH d := by
  unfold onP
  split
  · omega
  · exact (h (q.1 - 1) (by omega)).2.2.2
theorem PlIn_addL {d : Nat → Int32} {q : Pl} {n p line : Nat} {e : Bool} (hO : OkB d) (h : PlIn d q n) (hp : p < n) (hl : line < 30) (he : dH d ≤ onP q → e = true) : PlIn d (addL q p line e) n := by
  have h2 := hO.h2
  unfold addL
  split
  · intro k hk
    have hk : k < q.1 + 1 := hk
    show upN q.2.1 q.1 p k < n ∧ upN q.2.2.1 q.1 line k < 30 ∧ 1 ≤ upN q.2.2.2 q.1 1 k ∧ upN q.2.2.2 q.1 1 k ≤ dH d
    by_cases g : k = q.1
    · subst g
      rw [upN_s, upN_s, upN_s]
      omega
    · rw [upN_n g, upN_n g, upN_n g]
      exact h k (by omega)
  · next c =>
    simp only [Bool.or_eq_true, decide_eq_true_eq, not_or] at c
    intro k hk
    have hk : k < q.1 := hk
    show q.2.1 k < n ∧ q.2.2.1 k < 30 ∧ 1 ≤ upN q.2.2.2 (q.1 - 1) (q.2.2.2 (q.1 - 1) + 1) k ∧ upN q.2.2.2 (q.1 - 1) (q.2.2.2 (q.1 - 1) + 1) k ≤ dH d
    have hk0 := h k hk
    by_cases g : k = q.1 - 1
    · subst g
      have e1 : onP q = q.2.2.2 (q.1 - 1) := if_neg c.2
      rw [e1] at he
      have e2 : ¬ dH d ≤ q.2.2.2 (q.1 - 1) := fun z => c.1 (he z)
      rw [upN_s]
      exact ⟨hk0.1, hk0.2.1, by omega, by omega⟩
    · rw [upN_n g]
      exact hk0
theorem PlIn_lyL {d : Nat → Int32} {q : Pl} {n p : Nat} {f : Nat → Nat → Bool} (hO : OkB d) (h : PlIn d q n) (hp : p < n) (hf : ∀ line m, dH d ≤ m → f line m = true) : ∀ k, k ≤ 30 → PlIn d (lyL p f q k) n
  | 0, _ => h
  | k + 1, hk => PlIn_addL hO (PlIn_lyL hO h hp hf k (by omega)) hp (by omega) (fun z => hf _ _ z)
theorem must_H {d : Nat → Int32} (hO : OkB d) (st : Bool) {m : Nat} (h : dH d ≤ m) : must d st m = true := by
  have := hO.h2
  unfold must
  rw [if_neg (by omega)]
  cases st
  · rw [if_pos rfl, if_neg (by omega)]
  · rfl
theorem PlIn_lyP {d : Nat → Int32} (hO : OkB d) (sg : Nat → Nat) : ∀ p, p ≤ dP d → PlIn d (lyP d sg p) p
  | 0, _ => fun k hk => absurd hk (Nat.not_lt_zero _)
  | p + 1, hp => PlIn_lyL hO ((PlIn_lyP hO sg p (by omega)).up (by omega)) (Nat.lt_succ_self p) (fun line m h => must_H hO _ h) _ (cnt_le hO (by omega) _)
theorem PlIn_lyB {d : Nat → Int32} (hO : OkB d) : ∀ p, p ≤ dP d → PlIn d (lyB d p) p
  | 0, _ => fun k hk => absurd hk (Nat.not_lt_zero _)
  | p + 1, hp => PlIn_lyL hO ((PlIn_lyB hO p (by omega)).up (by omega)) (Nat.lt_succ_self p) (fun line m h => by unfold enB en; rw [must_H hO _ h]; rfl) _ (cnt_le hO (by omega) _)
theorem lyP_ok {d : Nat → Int32} (hO : OkB d) (sg : Nat → Nat) {p : Nat} (hp : p ≤ dP d) : PlOk d (lyP d sg p) p := ⟨lyP_pages hO sg p hp, PlIn_lyP hO sg p hp⟩
theorem lyB_ok {d : Nat → Int32} (hO : OkB d) {p : Nat} (hp : p ≤ dP d) : PlOk d (lyB d p) p := ⟨lyB_pages hO p hp, PlIn_lyB hO p hp⟩
