/-! WHAT A SETUP TEXT TELLS -/
section PSP
variable (tx : Nat → Nat) (len : Nat)
/-- k numbers of costs -/
def pCs : Nat → Nat → Rd (Nat → Nat)
  | 0, a => .inr (a, fun _ => 0)
  | k + 1, a => match pCs k a with
    | .inl e => .inl e
    | .inr (b, f) => match pNum tx len 0 999 b with
      | .inl e => .inl e
      | .inr (b', v) => .inr (b', upN f k v)
/-- words, from the k-th on -/
def pWs (M : Nat) : Nat → Nat → Nat → (Nat → Nat) → Rd (Nat × (Nat → Nat))
  | 0, _, _, _ => .inl (-4, 0)
  | g + 1, k, a, f => match pNum tx len 1 M a with
    | .inl e => .inl e
    | .inr (b, v) => if k = 30 then .inl (-4, sk tx len a) else if isDg tx len (sk tx len b) then pWs M g (k + 1) b (upN f k v) else .inr (sk tx len b, k + 1, upN f k v)
def costD (dd : Nat → Int32) (f : Nat → Nat) : Nat → Int32 := fun j => if 5 ≤ j ∧ j < 11 then nI (f (j - 5)) else dd j
def parD (dd : Nat → Int32) (hd pg : Bool) (n : Nat) (f : Nat → Nat) : Nat → Int32 := fun j =>
  if j = 4 then nI (dP dd + 1) else if j = 11 + 34 * dP dd then bI hd else if j = 11 + 34 * dP dd + 1 then bI pg else if j = 11 + 34 * dP dd + 2 then -1 else if j = 11 + 34 * dP dd + 3 then nI n
  else if 11 + 34 * dP dd + 4 ≤ j ∧ j < 11 + 34 * dP dd + 4 + n then nI (f (j - (11 + 34 * dP dd + 4))) else dd j
def pPar (start at_ : Nat) (hd : Bool) (dd : Nat → Int32) : Rd (Nat → Int32) :=
  if dP dd = 16 then .inl (-4, start) else match pWs tx len (dW dd - dS dd) 31 0 (pWd tx len 4 at_).2 (fun _ => 0) with
    | .inl e => .inl e
    | .inr (a, n, f) => .inr (a, parD dd hd (pWd tx len 4 at_).1 n f)
/-- a statement but its semicolon; at its first byte -/
def pBody (at_ : Nat) (hc hl : Bool) (dd : Nat → Int32) : Rd (Bool × Bool × (Nat → Int32)) :=
  if (pWd tx len 1 at_).1 then (if hc then .inl (-2, at_) else match pCs tx len 6 (pWd tx len 1 at_).2 with
    | .inl e => .inl e
    | .inr (a, f) => .inr (a, true, hl, costD dd f))
  else if (pWd tx len 2 at_).1 then (if hl then .inl (-2, at_) else match pNum tx len 0 9 (pWd tx len 2 at_).2 with
    | .inl e => .inl e
    | .inr (a, v) => .inr (a, hc, true, upd dd 3 (nI v)))
  else if (pWd tx len 3 at_).1 then (match pPar tx len at_ (pWd tx len 3 at_).2 false dd with
    | .inl e => .inl e
    | .inr (a, dd') => .inr (a, hc, hl, dd'))
  else if (pWd tx len 5 at_).1 then (match pPar tx len at_ (pWd tx len 5 at_).2 true dd with
    | .inl e => .inl e
    | .inr (a, dd') => .inr (a, hc, hl, dd'))
  else .inl (-2, at_)
def pStm (at_ : Nat) (hc hl : Bool) (dd : Nat → Int32) : Rd (Bool × Bool × (Nat → Int32)) := match pBody tx len at_ hc hl dd with
  | .inl e => .inl e
  | .inr (a, x) => match pSemi tx len a with
    | .inl e => .inl e
    | .inr (a', _) => .inr (a', x)
def pLoop : Nat → Nat → Bool → Bool → (Nat → Int32) → Rd (Nat → Int32)
  | 0, a, _, _, dd => .inr (a, dd)
  | f + 1, a, hc, hl, dd => if len ≤ sk tx len a then .inr (sk tx len a, dd) else match pStm tx len (sk tx len a) hc hl dd with
    | .inl e => .inl e
    | .inr (b, hc', hl', dd') => pLoop f b hc' hl' dd'
/-- a new book -/
def bkN (w h s : Nat) : Nat → Int32 := fun j => if j = 0 then nI w else if j = 1 then nI h else if j = 2 then nI s else if j = 3 then nI 1 else if j = 5 then nI 1 else if j = 6 then nI 1 else if j = 7 then nI 2 else if j = 8 then nI 20 else if j = 9 then nI 10 else if j = 10 then nI 30 else nI 0
def pHead : Rd (Nat → Int32) :=
  if (pWd tx len 0 0).1 then (match pNum tx len 10 60 (pWd tx len 0 0).2 with
    | .inl e => .inl e
    | .inr (a, w) => match pNum tx len 2 40 a with
      | .inl e => .inl e
      | .inr (b, h) => match pNum tx len 0 9 b with
        | .inl e => .inl e
        | .inr (c, s) => match pSemi tx len c with
          | .inl e => .inl e
          | .inr (g, _) => .inr (g, bkN w h s))
  else .inl (-2, (pWd tx len 0 0).2)
def pText : Rd (Nat → Int32) := match pHead tx len with
  | .inl e => .inl e
  | .inr (a, dd) => pLoop tx len (len + 1) a false false dd
end PSP
section PSQ
variable {tx : Nat → Nat} {len : Nat}
/-- an error's code -/
def bad (c : Int32) : Prop := c = -2 ∨ c = -3 ∨ c = -4
theorem bad_ne {c : Int32} (h : bad c) : c ≠ 0 := by rcases h with rfl | rfl | rfl <;> decide
theorem pNum_b {lo hi a o : Nat} {c : Int32} (ha : a ≤ len) (h : pNum tx len lo hi a = .inl (c, o)) : bad c ∧ o ≤ len := by
  obtain ⟨h1, h2⟩ := pNum_l ha h
  exact ⟨h1.elim Or.inl (fun z => Or.inr (Or.inl z)), by rw [h2]; exact sk_le ha⟩
theorem pSemi_b {a o : Nat} {c : Int32} (ha : a ≤ len) (h : pSemi tx len a = .inl (c, o)) : bad c ∧ o ≤ len := by
  unfold pSemi at h
  split at h
  · cases h
  · cases h; exact ⟨Or.inl rfl, sk_le ha⟩
theorem pCs_r : ∀ k {a b : Nat} {f : Nat → Nat}, a ≤ len → pCs tx len k a = .inr (b, f) → b ≤ len ∧ a ≤ b ∧ ∀ i, i < k → f i ≤ 999
  | 0, a, b, f, ha, h => by
    cases h
    exact ⟨ha, Nat.le_refl _, fun i hi => absurd hi (Nat.not_lt_zero _)⟩
  | k + 1, a, b, f, ha, h => by
    unfold pCs at h
    cases h1 : pCs tx len k a with
    | inl e => rw [h1] at h; cases h
    | inr x =>
      obtain ⟨b0, f0⟩ := x
      rw [h1] at h
      dsimp only at h
      obtain ⟨g1, g2, g3⟩ := pCs_r k ha h1
      cases h2 : pNum tx len 0 999 b0 with
      | inl e => rw [h2] at h; cases h
      | inr y =>
        obtain ⟨b1, v⟩ := y
        rw [h2] at h
        cases h
        obtain ⟨k1, k2, k3, k4⟩ := pNum_r g1 h2
        refine ⟨k1, by omega, fun i hi => ?_⟩
        by_cases g : i = k
        · rw [g, upN_s]; exact k4
        · rw [upN_n g]; exact g3 i (by omega)
theorem pCs_b : ∀ k {a o : Nat} {c : Int32}, a ≤ len → pCs tx len k a = .inl (c, o) → bad c ∧ o ≤ len
  | 0, _, _, _, _, h => by cases h
  | k + 1, a, o, c, ha, h => by
    unfold pCs at h
    cases h1 : pCs tx len k a with
    | inl e =>
      rw [h1] at h
      cases h
      exact pCs_b k ha h1
    | inr x =>
      obtain ⟨b, f⟩ := x
      rw [h1] at h
      dsimp only at h
      have hb : b ≤ len := (pCs_r k ha h1).1
      cases h2 : pNum tx len 0 999 b with
      | inl e =>
        rw [h2] at h
        cases h
        exact pNum_b hb h2
      | inr y =>
        rw [h2] at h
        cases h
theorem pWs_f {M : Nat} : ∀ g {k a : Nat} {f : Nat → Nat}, a ≤ len → k + g = 31 → (∀ c o, pWs tx len M g k a f = .inl (c, o) → bad c ∧ o ≤ len) ∧ ∀ b n f', pWs tx len M g k a f = .inr (b, n, f') → b ≤ len ∧ a ≤ b ∧ k < n ∧ n ≤ 30 ∧ (∀ i, i < k → f' i = f i) ∧ ∀ i, k ≤ i → i < n → 1 ≤ f' i ∧ f' i ≤ M
  | 0, k, a, f, ha, hk => ⟨fun c o h => (by cases h; exact ⟨Or.inr (Or.inr rfl), Nat.zero_le _⟩), fun b n f' h => (by cases h)⟩
  | g + 1, k, a, f, ha, hk => by
    unfold pWs
    cases h1 : pNum tx len 1 M a with
    | inl e =>
      refine ⟨fun c o h => ?_, fun b n f' h => (by cases h)⟩
      cases h
      exact pNum_b ha h1
    | inr x =>
      obtain ⟨b0, v⟩ := x
      obtain ⟨k1, k2, k3, k4⟩ := pNum_r ha h1
      dsimp only
      by_cases hk30 : k = 30
      · rw [if_pos hk30]
        exact ⟨fun c o h => (by cases h; exact ⟨Or.inr (Or.inr rfl), sk_le ha⟩), fun b n f' h => (by cases h)⟩
      · rw [if_neg hk30]
        cases hd : isDg tx len (sk tx len b0)
        · rw [if_neg (by decide)]
          refine ⟨fun c o h => (by cases h), fun b n f' h => ?_⟩
          cases h
          have := sk_ge (tx := tx) (len := len) b0
          refine ⟨sk_le k1, by omega, by omega, by omega, fun i hi => upN_n (by omega), fun i h1 h2 => ?_⟩
          rw [show i = k by omega, upN_s]
          exact ⟨k3, k4⟩
        · rw [if_pos rfl]
          obtain ⟨q1, q2⟩ := pWs_f (M := M) g (k := k + 1) (a := b0) (f := upN f k v) k1 (by omega)
          refine ⟨q1, fun b n f' h => ?_⟩
          obtain ⟨r1, r2, r3, r4, r5, r6⟩ := q2 b n f' h
          refine ⟨r1, by omega, by omega, r4, fun i hi => ?_, fun i h1 h2 => ?_⟩
          · rw [r5 i (by omega), upN_n (by omega)]
          · by_cases g : i = k
            · rw [g, r5 k (by omega), upN_s]; exact ⟨k3, k4⟩
            · exact r6 i (by omega) h2
theorem pWd_2 {w a : Nat} (ha : a ≤ len) (hw : w < 6) : (pWd tx len w a).2 ≤ len ∧ a ≤ (pWd tx len w a).2 := pWd_le ha hw
theorem pWd_no {w a : Nat} (h : (pWd tx len w a).1 = false) : (pWd tx len w a).2 = sk tx len a := by
  unfold pWd at h ⊢
  split
  · next c => rw [if_pos c] at h; cases h
  · rfl
/-! the books that come are good -/
theorem costD_ok {dd : Nat → Int32} {f : Nat → Nat} (hO : OkB dd) (hf : ∀ i, i < 6 → f i ≤ 999) : OkB (costD dd f) ∧ dP (costD dd f) = dP dd ∧ (∀ k, k < 6 → dC (costD dd f) k = f k) ∧ (∀ p, ParEq dd p (costD dd f) p) ∧ dW (costD dd f) = dW dd ∧ dH (costD dd f) = dH dd ∧ dS (costD dd f) = dS dd ∧ dL (costD dd f) = dL dd := by
  have u : ∀ j, ¬ (5 ≤ j ∧ j < 11) → costD dd f j = dd j := fun j hj => if_neg hj
  have c : ∀ k, k < 6 → costD dd f (5 + k) = nI (f k) := fun k hk => by unfold costD; rw [if_pos (by omega), show 5 + k - 5 = k by omega]
  have hpar : ∀ p, ParEq dd p (costD dd f) p := fun p i hi => u _ (by omega)
  have eP : dP (costD dd f) = dP dd := congrArg nz (u 4 (by omega))
  have ew : dW (costD dd f) = dW dd := congrArg nz (u 0 (by omega))
  have eh : dH (costD dd f) = dH dd := congrArg nz (u 1 (by omega))
  have es : dS (costD dd f) = dS dd := congrArg nz (u 2 (by omega))
  have el : dL (costD dd f) = dL dd := congrArg nz (u 3 (by omega))
  have ec : ∀ k, k < 6 → dC (costD dd f) k = f k := fun k hk => by
    have := hf k hk
    show nz (costD dd f (5 + k)) = _
    rw [c k hk, nz_nI (by omega)]
  refine ⟨⟨⟨?_, ?_, ?_⟩, ⟨?_, ?_, ?_⟩, ⟨?_, ?_⟩, ⟨?_, ?_⟩, ⟨?_, ?_⟩, fun i hi => ?_, fun p hpp => (hpar p).ok (hO.par (by rw [eP] at hpp; exact hpp))⟩, eP, ec, hpar, ew, eh, es, el⟩
  · rw [u 0 (by omega), ew]; exact hO.w
  · rw [ew]; exact hO.w10
  · rw [ew]; exact hO.w60
  · rw [u 1 (by omega), eh]; exact hO.h
  · rw [eh]; exact hO.h2
  · rw [eh]; exact hO.h40
  · rw [u 2 (by omega), es]; exact hO.s
  · rw [es]; exact hO.s9
  · rw [u 3 (by omega), el]; exact hO.l
  · rw [el]; exact hO.l9
  · rw [u 4 (by omega), eP]; exact hO.p
  · rw [eP]; exact hO.p16
  · rw [ec i hi]; exact ⟨c i hi, hf i hi⟩
theorem limD_ok {dd : Nat → Int32} {v : Nat} (hO : OkB dd) (hv : v ≤ 9) : OkB (upd dd 3 (nI v)) ∧ dP (upd dd 3 (nI v)) = dP dd ∧ dL (upd dd 3 (nI v)) = v ∧ (∀ k, dC (upd dd 3 (nI v)) k = dC dd k) ∧ (∀ p, ParEq dd p (upd dd 3 (nI v)) p) ∧ dW (upd dd 3 (nI v)) = dW dd ∧ dH (upd dd 3 (nI v)) = dH dd ∧ dS (upd dd 3 (nI v)) = dS dd := by
  have u : ∀ j, j ≠ 3 → upd dd 3 (nI v) j = dd j := fun j hj => pk_un hj
  have hpar : ∀ p, ParEq dd p (upd dd 3 (nI v)) p := fun p i hi => u _ (by omega)
  have eP : dP (upd dd 3 (nI v)) = dP dd := congrArg nz (u 4 (by omega))
  have ew : dW (upd dd 3 (nI v)) = dW dd := congrArg nz (u 0 (by omega))
  have eh : dH (upd dd 3 (nI v)) = dH dd := congrArg nz (u 1 (by omega))
  have es : dS (upd dd 3 (nI v)) = dS dd := congrArg nz (u 2 (by omega))
  have e3 : upd dd 3 (nI v) 3 = nI v := pk_us
  have el : dL (upd dd 3 (nI v)) = v := by show nz (upd dd 3 (nI v) 3) = v; rw [e3, nz_nI (by omega)]
  have ec : ∀ k, dC (upd dd 3 (nI v)) k = dC dd k := fun k => congrArg nz (u (5 + k) (by omega))
  refine ⟨⟨⟨?_, ?_, ?_⟩, ⟨?_, ?_, ?_⟩, ⟨?_, ?_⟩, ⟨?_, ?_⟩, ⟨?_, ?_⟩, fun i hi => ?_, fun p hpp => (hpar p).ok (hO.par (by rw [eP] at hpp; exact hpp))⟩, eP, el, ec, hpar, ew, eh, es⟩
  · rw [u 0 (by omega), ew]; exact hO.w
  · rw [ew]; exact hO.w10
  · rw [ew]; exact hO.w60
  · rw [u 1 (by omega), eh]; exact hO.h
  · rw [eh]; exact hO.h2
  · rw [eh]; exact hO.h40
  · rw [u 2 (by omega), es]; exact hO.s
  · rw [es]; exact hO.s9
  · rw [el]; exact e3
  · rw [el]; exact hv
  · rw [u 4 (by omega), eP]; exact hO.p
  · rw [eP]; exact hO.p16
  · rw [ec i, u (5 + i) (by omega)]; exact ⟨hO.c hi, hO.c999 hi⟩
theorem parD_ok {dd : Nat → Int32} {hd pg : Bool} {n : Nat} {f : Nat → Nat} (hO : OkB dd) (hP : dP dd < 16) (n1 : 1 ≤ n) (n30 : n ≤ 30) (hf : ∀ i, i < n → f i ≤ 60) : OkB (parD dd hd pg n f) ∧ dP (parD dd hd pg n f) = dP dd + 1 ∧ HeadEq dd (parD dd hd pg n f) ∧ (∀ q, q < dP dd → ParEq dd q (parD dd hd pg n f) q) ∧ dHd (parD dd hd pg n f) (dP dd) = hd ∧ dB (parD dd hd pg n f) (dP dd) = pg ∧ dF (parD dd hd pg n f) (dP dd) = -1 ∧ dN (parD dd hd pg n f) (dP dd) = n ∧ ∀ k, k < n → dV (parD dd hd pg n f) (dP dd) k = f k := by
  have hH : HeadEq dd (parD dd hd pg n f) := fun j hj h4 => by
    unfold parD
    rw [if_neg h4, if_neg (by omega), if_neg (by omega), if_neg (by omega), if_neg (by omega), if_neg (by omega)]
  have h4 : parD dd hd pg n f 4 = nI (dP dd + 1) := if_pos rfl
  have a : ∀ q, q < dP dd → ParEq dd q (parD dd hd pg n f) q := fun q hq k hk => by
    unfold parD
    rw [if_neg (by omega), if_neg (by omega), if_neg (by omega), if_neg (by omega), if_neg (by omega), if_neg (by omega)]
  have m0 : parD dd hd pg n f (11 + 34 * dP dd) = bI hd := by unfold parD; rw [if_neg (by omega), if_pos rfl]
  have m1 : parD dd hd pg n f (11 + 34 * dP dd + 1) = bI pg := by unfold parD; rw [if_neg (by omega), if_neg (by omega), if_pos rfl]
  have m2 : parD dd hd pg n f (11 + 34 * dP dd + 2) = -1 := by unfold parD; rw [if_neg (by omega), if_neg (by omega), if_neg (by omega), if_pos rfl]
  have m3 : parD dd hd pg n f (11 + 34 * dP dd + 3) = nI n := by unfold parD; rw [if_neg (by omega), if_neg (by omega), if_neg (by omega), if_neg (by omega), if_pos rfl]
  have mv : ∀ k, k < n → parD dd hd pg n f (11 + 34 * dP dd + (4 + k)) = nI (f k) := fun k hk => by
    unfold parD
    rw [if_neg (by omega), if_neg (by omega), if_neg (by omega), if_neg (by omega), if_neg (by omega), if_pos (by omega)]
    exact congrArg (fun i => nI (f i)) (by omega)
  have eH : dHd (parD dd hd pg n f) (dP dd) = hd := by show (_ == nI 1) = _; rw [m0]; cases hd <;> decide
  have eB : dB (parD dd hd pg n f) (dP dd) = pg := by show (_ == nI 1) = _; rw [m1]; cases pg <;> decide
  have eN : dN (parD dd hd pg n f) (dP dd) = n := by show nz _ = _; rw [m3, nz_nI (by omega)]
  have eV : ∀ k, k < n → dV (parD dd hd pg n f) (dP dd) k = f k := fun k hk => by have := hf k hk; show nz _ = _; rw [mv k hk, nz_nI (by omega)]
  refine ⟨hH.ok hO h4 (by omega) (fun q hq => ?_), ?_, hH, a, eH, eB, m2, eN, eV⟩
  · rcases Nat.lt_or_ge q (dP dd) with g | g
    · exact (a q g).ok (hO.par g)
    · have e : q = dP dd := by omega
      subst e
      refine ⟨by rw [eH]; exact m0, by rw [eB]; exact m1, Or.inl m2, by rw [eN]; exact m3, by omega, by omega, fun k hk => ?_⟩
      rw [eN] at hk
      rw [eV k hk]
      exact ⟨mv k hk, hf k hk⟩
  · show nz (nI (dP dd + 1)) = _
    exact nz_nI (by omega)
theorem bkN_ok {w h s : Nat} (w1 : 10 ≤ w) (w2 : w ≤ 60) (h1 : 2 ≤ h) (h2 : h ≤ 40) (s1 : s ≤ 9) : OkB (bkN w h s) ∧ dW (bkN w h s) = w ∧ dH (bkN w h s) = h ∧ dS (bkN w h s) = s ∧ dL (bkN w h s) = 1 ∧ dP (bkN w h s) = 0 ∧ ∀ k, k < 6 → nI (dC (bkN w h s) k) = uC k := by
  have ew : dW (bkN w h s) = w := nz_nI (by omega)
  have eh : dH (bkN w h s) = h := nz_nI (by omega)
  have es : dS (bkN w h s) = s := nz_nI (by omega)
  have el : dL (bkN w h s) = 1 := nz_nI (by decide)
  have eP : dP (bkN w h s) = 0 := nz_nI (by decide)
  have c0 : dC (bkN w h s) 0 = 1 := nz_nI (by decide)
  have c1 : dC (bkN w h s) 1 = 1 := nz_nI (by decide)
  have c2 : dC (bkN w h s) 2 = 2 := nz_nI (by decide)
  have c3 : dC (bkN w h s) 3 = 20 := nz_nI (by decide)
  have c4 : dC (bkN w h s) 4 = 10 := nz_nI (by decide)
  have c5 : dC (bkN w h s) 5 = 30 := nz_nI (by decide)
  have cc : ∀ k, k < 6 → nI (dC (bkN w h s) k) = uC k ∧ bkN w h s (5 + k) = nI (dC (bkN w h s) k) ∧ dC (bkN w h s) k ≤ 999 := fun k hk => by
    have : k = 0 ∨ k = 1 ∨ k = 2 ∨ k = 3 ∨ k = 4 ∨ k = 5 := by omega
    rcases this with rfl | rfl | rfl | rfl | rfl | rfl
    · rw [c0]; exact ⟨rfl, rfl, by decide⟩
    · rw [c1]; exact ⟨rfl, rfl, by decide⟩
    · rw [c2]; exact ⟨rfl, rfl, by decide⟩
    · rw [c3]; exact ⟨rfl, rfl, by decide⟩
    · rw [c4]; exact ⟨rfl, rfl, by decide⟩
    · rw [c5]; exact ⟨rfl, rfl, by decide⟩
  refine ⟨⟨⟨by rw [ew]; rfl, by omega, by omega⟩, ⟨by rw [eh]; rfl, by omega, by omega⟩, ⟨by rw [es]; rfl, by omega⟩, ⟨by rw [el]; rfl, by omega⟩, ⟨by rw [eP]; rfl, by omega⟩, fun k hk => (cc k hk).2, fun p hp => by omega⟩, ew, eh, es, el, eP, fun k hk => (cc k hk).1⟩
end PSQ
