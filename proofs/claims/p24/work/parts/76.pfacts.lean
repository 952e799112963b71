/-! WHAT A SETUP TEXT TELLS: its facts -/
section PFA
variable {tx : Nat → Nat} {len : Nat}
theorem pNum_sk {lo hi a : Nat} (ha : a ≤ len) : pNum tx len lo hi (sk tx len a) = pNum tx len lo hi a := by
  unfold pNum
  rw [sk_sk a ha]
theorem pCs_up {a : Nat} {e : Int32 × Nat} {k : Nat} (h : pCs tx len k a = .inl e) : ∀ r, pCs tx len (k + r) a = .inl e
  | 0 => h
  | r + 1 => by
    show pCs tx len ((k + r) + 1) a = _
    unfold pCs
    rw [pCs_up h r]
/-- a good book of the same measures -/
def Gd (dd dd' : Nat → Int32) : Prop := OkB dd' ∧ dW dd' = dW dd ∧ dH dd' = dH dd ∧ dS dd' = dS dd
theorem pPar_f {dd : Nat → Int32} (hO : OkB dd) {start a : Nat} {hd : Bool} (hs : start ≤ len) (ha : a ≤ len) : (∀ c o, pPar tx len start a hd dd = .inl (c, o) → bad c ∧ o ≤ len) ∧ ∀ b dd', pPar tx len start a hd dd = .inr (b, dd') → b ≤ len ∧ a ≤ b ∧ Gd dd dd' := by
  have h60 := hO.w60
  have h16 := hO.p16
  unfold pPar
  by_cases g : dP dd = 16
  · rw [if_pos g]
    exact ⟨fun c o h => (by cases h; exact ⟨Or.inr (Or.inr rfl), hs⟩), fun b d' h => (by cases h)⟩
  · rw [if_neg g]
    have hw := pWd_2 (tx := tx) (w := 4) ha (by decide)
    obtain ⟨q1, q2⟩ := pWs_f (tx := tx) (M := dW dd - dS dd) 31 (k := 0) (f := fun _ => 0) hw.1 rfl
    cases h1 : pWs tx len (dW dd - dS dd) 31 0 (pWd tx len 4 a).2 (fun _ => 0) with
    | inl e =>
      exact ⟨fun c o h => (by cases h; exact q1 _ _ h1), fun b d' h => (by cases h)⟩
    | inr x =>
      obtain ⟨b, n, f⟩ := x
      refine ⟨fun c o h => (by cases h), fun b' d' h => ?_⟩
      obtain ⟨r1, r2, r3, r4, -, r6⟩ := q2 b n f h1
      cases h
      have q := parD_ok (hd := hd) (pg := (pWd tx len 4 a).1) (f := f) hO (by omega) (show 1 ≤ n by omega) r4 (fun i hi => by have := (r6 i (Nat.zero_le _) hi).2; omega)
      exact ⟨r1, by omega, q.1, q.2.2.1.w, q.2.2.1.h, q.2.2.1.s⟩
theorem pBody_f {dd : Nat → Int32} (hO : OkB dd) {a : Nat} {hc hl : Bool} (ha : a ≤ len) : (∀ c o, pBody tx len a hc hl dd = .inl (c, o) → bad c ∧ o ≤ len) ∧ ∀ b hc' hl' dd', pBody tx len a hc hl dd = .inr (b, hc', hl', dd') → b ≤ len ∧ a ≤ b ∧ Gd dd dd' := by
  unfold pBody
  cases w1 : (pWd tx len 1 a).1
  · rw [if_neg (by decide)]
    cases w2 : (pWd tx len 2 a).1
    · rw [if_neg (by decide)]
      cases w3 : (pWd tx len 3 a).1
      · rw [if_neg (by decide)]
        cases w5 : (pWd tx len 5 a).1
        · rw [if_neg (by decide)]
          exact ⟨fun c o h => (by cases h; exact ⟨Or.inl rfl, ha⟩), fun b _ _ d' h => (by cases h)⟩
        · rw [if_pos rfl]
          have hw := pWd_2 (tx := tx) (w := 5) ha (by decide)
          obtain ⟨q1, q2⟩ := pPar_f (tx := tx) hO (hd := true) ha hw.1
          cases h1 : pPar tx len a (pWd tx len 5 a).2 true dd with
          | inl e => exact ⟨fun c o h => (by cases h; exact q1 _ _ h1), fun b _ _ d' h => (by cases h)⟩
          | inr x =>
            obtain ⟨b, d1⟩ := x
            refine ⟨fun c o h => (by cases h), fun b' _ _ d' h => ?_⟩
            have := q2 b d1 h1
            cases h
            exact ⟨this.1, by omega, this.2.2⟩
      · rw [if_pos rfl]
        have hw := pWd_2 (tx := tx) (w := 3) ha (by decide)
        obtain ⟨q1, q2⟩ := pPar_f (tx := tx) hO (hd := false) ha hw.1
        cases h1 : pPar tx len a (pWd tx len 3 a).2 false dd with
        | inl e => exact ⟨fun c o h => (by cases h; exact q1 _ _ h1), fun b _ _ d' h => (by cases h)⟩
        | inr x =>
          obtain ⟨b, d1⟩ := x
          refine ⟨fun c o h => (by cases h), fun b' _ _ d' h => ?_⟩
          have := q2 b d1 h1
          cases h
          exact ⟨this.1, by omega, this.2.2⟩
    · rw [if_pos rfl]
      have hw := pWd_2 (tx := tx) (w := 2) ha (by decide)
      cases hl
      · rw [if_neg (by decide)]
        cases h1 : pNum tx len 0 9 (pWd tx len 2 a).2 with
        | inl e => exact ⟨fun c o h => (by cases h; exact pNum_b hw.1 h1), fun b _ _ d' h => (by cases h)⟩
        | inr x =>
          obtain ⟨b, v⟩ := x
          refine ⟨fun c o h => (by cases h), fun b' _ _ d' h => ?_⟩
          have := pNum_r hw.1 h1
          cases h
          obtain ⟨l1, -, -, -, -, l2, l3, l4⟩ := limD_ok hO this.2.2.2
          exact ⟨this.1, by omega, l1, l2, l3, l4⟩
      · rw [if_pos rfl]
        exact ⟨fun c o h => (by cases h; exact ⟨Or.inl rfl, ha⟩), fun b _ _ d' h => (by cases h)⟩
  · rw [if_pos rfl]
    have hw := pWd_2 (tx := tx) (w := 1) ha (by decide)
    cases hc
    · rw [if_neg (by decide)]
      cases h1 : pCs tx len 6 (pWd tx len 1 a).2 with
      | inl e => exact ⟨fun c o h => (by cases h; exact pCs_b 6 hw.1 h1), fun b _ _ d' h => (by cases h)⟩
      | inr x =>
        obtain ⟨b, f⟩ := x
        refine ⟨fun c o h => (by cases h), fun b' _ _ d' h => ?_⟩
        have := pCs_r 6 hw.1 h1
        cases h
        obtain ⟨l1, -, -, -, l2, l3, l4, -⟩ := costD_ok hO this.2.2
        exact ⟨this.1, by omega, l1, l2, l3, l4⟩
    · rw [if_pos rfl]
      exact ⟨fun c o h => (by cases h; exact ⟨Or.inl rfl, ha⟩), fun b _ _ d' h => (by cases h)⟩
theorem pStm_f {dd : Nat → Int32} (hO : OkB dd) {a : Nat} {hc hl : Bool} (ha : a ≤ len) : (∀ c o, pStm tx len a hc hl dd = .inl (c, o) → bad c ∧ o ≤ len) ∧ ∀ b hc' hl' dd', pStm tx len a hc hl dd = .inr (b, hc', hl', dd') → b ≤ len ∧ a < b ∧ Gd dd dd' := by
  obtain ⟨q1, q2⟩ := pBody_f (tx := tx) hO (hc := hc) (hl := hl) ha
  unfold pStm
  cases h1 : pBody tx len a hc hl dd with
  | inl e => exact ⟨fun c o h => (by cases h; exact q1 _ _ h1), fun b _ _ d' h => (by cases h)⟩
  | inr x =>
    obtain ⟨b, hc1, hl1, d1⟩ := x
    obtain ⟨r1, r2, r3⟩ := q2 _ _ _ _ h1
    dsimp only
    cases h2 : pSemi tx len b with
    | inl e => exact ⟨fun c o h => (by cases h; exact pSemi_b r1 h2), fun b _ _ d' h => (by cases h)⟩
    | inr y =>
      obtain ⟨b2, u⟩ := y
      refine ⟨fun c o h => (by cases h), fun b' _ _ d' h => ?_⟩
      have := pSemi_r r1 h2
      cases h
      exact ⟨this.1, by omega, r3⟩
theorem pLoop_f : ∀ f {dd : Nat → Int32} {a : Nat} {hc hl : Bool}, OkB dd → a ≤ len → (∀ c o, pLoop tx len f a hc hl dd = .inl (c, o) → bad c ∧ o ≤ len) ∧ ∀ b dd', pLoop tx len f a hc hl dd = .inr (b, dd') → b ≤ len ∧ OkB dd'
  | 0, dd, a, hc, hl, hO, ha => ⟨fun c o h => (by cases h), fun b d' h => (by cases h; exact ⟨ha, hO⟩)⟩
  | f + 1, dd, a, hc, hl, hO, ha => by
    have hs := sk_le (tx := tx) ha
    unfold pLoop
    by_cases g : len ≤ sk tx len a
    · rw [if_pos g]
      exact ⟨fun c o h => (by cases h), fun b d' h => (by cases h; exact ⟨hs, hO⟩)⟩
    · rw [if_neg g]
      obtain ⟨q1, q2⟩ := pStm_f (tx := tx) hO (hc := hc) (hl := hl) hs
      cases h1 : pStm tx len (sk tx len a) hc hl dd with
      | inl e => exact ⟨fun c o h => (by cases h; exact q1 _ _ h1), fun b d' h => (by cases h)⟩
      | inr x =>
        obtain ⟨b, hc1, hl1, d1⟩ := x
        obtain ⟨r1, r2, r3⟩ := q2 _ _ _ _ h1
        exact pLoop_f f r3.1 r1
theorem pHead_f : (∀ c o, pHead tx len = .inl (c, o) → bad c ∧ o ≤ len) ∧ ∀ b dd', pHead tx len = .inr (b, dd') → b ≤ len ∧ OkB dd' ∧ ∃ w h s, dd' = bkN w h s ∧ 10 ≤ w ∧ w ≤ 60 ∧ 2 ≤ h ∧ h ≤ 40 ∧ s ≤ 9 := by
  have hw := pWd_2 (tx := tx) (len := len) (w := 0) (a := 0) (Nat.zero_le _) (by decide)
  unfold pHead
  cases w1 : (pWd tx len 0 0).1
  · rw [if_neg (by decide)]
    exact ⟨fun c o h => (by cases h; exact ⟨Or.inl rfl, hw.1⟩), fun b d' h => (by cases h)⟩
  · rw [if_pos rfl]
    cases h1 : pNum tx len 10 60 (pWd tx len 0 0).2 with
    | inl e => exact ⟨fun c o h => (by cases h; exact pNum_b hw.1 h1), fun b d' h => (by cases h)⟩
    | inr x =>
      obtain ⟨a, w⟩ := x
      obtain ⟨a1, a2, a3, a4⟩ := pNum_r hw.1 h1
      dsimp only
      cases h2 : pNum tx len 2 40 a with
      | inl e => exact ⟨fun c o h => (by cases h; exact pNum_b a1 h2), fun b d' h => (by cases h)⟩
      | inr x =>
        obtain ⟨b, h⟩ := x
        obtain ⟨b1, b2, b3, b4⟩ := pNum_r a1 h2
        dsimp only
        cases h3 : pNum tx len 0 9 b with
        | inl e => exact ⟨fun c o h => (by cases h; exact pNum_b b1 h3), fun b d' h => (by cases h)⟩
        | inr x =>
          obtain ⟨c, s⟩ := x
          obtain ⟨c1, c2, c3, c4⟩ := pNum_r b1 h3
          dsimp only
          cases h4 : pSemi tx len c with
          | inl e => exact ⟨fun c o h => (by cases h; exact pSemi_b c1 h4), fun b d' h => (by cases h)⟩
          | inr x =>
            obtain ⟨g, u⟩ := x
            refine ⟨fun c o h => (by cases h), fun b' d' hh => ?_⟩
            have := pSemi_r c1 h4
            cases hh
            exact ⟨this.1, (bkN_ok a3 a4 b3 b4 c4).1, w, h, s, rfl, a3, a4, b3, b4, c4⟩
theorem pText_f : (∀ c o, pText tx len = .inl (c, o) → bad c ∧ o ≤ len) ∧ ∀ b dd, pText tx len = .inr (b, dd) → OkB dd := by
  obtain ⟨q1, q2⟩ := pHead_f (tx := tx) (len := len)
  unfold pText
  cases h1 : pHead tx len with
  | inl e => exact ⟨fun c o h => (by cases h; exact q1 _ _ h1), fun b d' h => (by cases h)⟩
  | inr x =>
    obtain ⟨a, dd⟩ := x
    obtain ⟨r1, r2, -⟩ := q2 _ _ h1
    obtain ⟨s1, s2⟩ := pLoop_f (tx := tx) (len + 1) (hc := false) (hl := false) r2 r1
    exact ⟨fun c o h => s1 _ _ h, fun b d' h => (s2 _ _ h).2⟩
end PFA
