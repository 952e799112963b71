/-! WHAT THE DOCUMENT SAYS, as functions of a book d (the row of ints as the reference keeps it). -/
def nz (x : Int32) : Nat := x.toNatClampNeg
def dW (d : Nat → Int32) : Nat := nz (d 0)
def dH (d : Nat → Int32) : Nat := nz (d 1)
def dS (d : Nat → Int32) : Nat := nz (d 2)
def dL (d : Nat → Int32) : Nat := nz (d 3)
def dP (d : Nat → Int32) : Nat := nz (d 4)
def dC (d : Nat → Int32) (k : Nat) : Nat := nz (d (5 + k))
def dHd (d : Nat → Int32) (p : Nat) : Bool := d (11 + 34 * p) == nI 1
def dB (d : Nat → Int32) (p : Nat) : Bool := d (11 + 34 * p + 1) == nI 1
def dF (d : Nat → Int32) (p : Nat) : Int32 := d (11 + 34 * p + 2)
def dN (d : Nat → Int32) (p : Nat) : Nat := nz (d (11 + 34 * p + 3))
def dV (d : Nat → Int32) (p k : Nat) : Nat := nz (d (11 + 34 * p + (4 + k)))
/-- a paragraph's row is good -/
def OkP (d : Nat → Int32) (p : Nat) : Prop := d (11 + 34 * p) = bI (dHd d p) ∧ d (11 + 34 * p + 1) = bI (dB d p) ∧ (dF d p = -1 ∨ dF d p = nI 0 ∨ dF d p = nI 1 ∨ dF d p = nI 2) ∧ d (11 + 34 * p + 3) = nI (dN d p) ∧ 1 ≤ dN d p ∧ dN d p ≤ 30 ∧ ∀ k, k < dN d p → d (11 + 34 * p + (4 + k)) = nI (dV d p k) ∧ dV d p k ≤ 60
/-- a book's row is good -/
def OkB (d : Nat → Int32) : Prop := (d 0 = nI (dW d) ∧ 10 ≤ dW d ∧ dW d ≤ 60) ∧ (d 1 = nI (dH d) ∧ 2 ≤ dH d ∧ dH d ≤ 40) ∧ (d 2 = nI (dS d) ∧ dS d ≤ 9) ∧ (d 3 = nI (dL d) ∧ dL d ≤ 9) ∧ (d 4 = nI (dP d) ∧ dP d ≤ 16) ∧ (∀ k, k < 6 → d (5 + k) = nI (dC d k) ∧ dC d k ≤ 999) ∧ ∀ p, p < dP d → OkP d p
theorem nz_nI {a : Nat} (h : a < 2 ^ 31) : nz (nI a) = a := nI_clamp h
section OK
variable {d : Nat → Int32}
theorem OkB.w (h : OkB d) : d 0 = nI (dW d) := h.1.1
theorem OkB.w10 (h : OkB d) : 10 ≤ dW d := h.1.2.1
theorem OkB.w60 (h : OkB d) : dW d ≤ 60 := h.1.2.2
theorem OkB.h (h : OkB d) : d 1 = nI (dH d) := h.2.1.1
theorem OkB.h2 (h : OkB d) : 2 ≤ dH d := h.2.1.2.1
theorem OkB.h40 (h : OkB d) : dH d ≤ 40 := h.2.1.2.2
theorem OkB.s (h : OkB d) : d 2 = nI (dS d) := h.2.2.1.1
theorem OkB.s9 (h : OkB d) : dS d ≤ 9 := h.2.2.1.2
theorem OkB.l (h : OkB d) : d 3 = nI (dL d) := h.2.2.2.1.1
theorem OkB.l9 (h : OkB d) : dL d ≤ 9 := h.2.2.2.1.2
theorem OkB.p (h : OkB d) : d 4 = nI (dP d) := h.2.2.2.2.1.1
theorem OkB.p16 (h : OkB d) : dP d ≤ 16 := h.2.2.2.2.1.2
theorem OkB.c (h : OkB d) {k : Nat} (hk : k < 6) : d (5 + k) = nI (dC d k) := (h.2.2.2.2.2.1 k hk).1
theorem OkB.c999 (h : OkB d) {k : Nat} (hk : k < 6) : dC d k ≤ 999 := (h.2.2.2.2.2.1 k hk).2
theorem OkB.par (h : OkB d) {p : Nat} (hp : p < dP d) : OkP d p := h.2.2.2.2.2.2 p hp
theorem OkB.n (h : OkB d) {p : Nat} (hp : p < dP d) : d (11 + 34 * p + 3) = nI (dN d p) := (h.par hp).2.2.2.1
theorem OkB.n1 (h : OkB d) {p : Nat} (hp : p < dP d) : 1 ≤ dN d p := (h.par hp).2.2.2.2.1
theorem OkB.n30 (h : OkB d) {p : Nat} (hp : p < dP d) : dN d p ≤ 30 := (h.par hp).2.2.2.2.2.1
theorem OkB.v (h : OkB d) {p k : Nat} (hp : p < dP d) (hk : k < dN d p) : d (11 + 34 * p + (4 + k)) = nI (dV d p k) := ((h.par hp).2.2.2.2.2.2 k hk).1
theorem OkB.v60 (h : OkB d) {p k : Nat} (hp : p < dP d) (hk : k < dN d p) : dV d p k ≤ 60 := ((h.par hp).2.2.2.2.2.2 k hk).2
theorem OkB.hd (h : OkB d) {p : Nat} (hp : p < dP d) : d (11 + 34 * p) = bI (dHd d p) := (h.par hp).1
theorem OkB.b (h : OkB d) {p : Nat} (hp : p < dP d) : d (11 + 34 * p + 1) = bI (dB d p) := (h.par hp).2.1
theorem OkB.f (h : OkB d) {p : Nat} (hp : p < dP d) : dF d p = -1 ∨ dF d p = nI 0 ∨ dF d p = nI 1 ∨ dF d p = nI 2 := (h.par hp).2.2.1
end OK
/-! lines -/
def hol (d : Nat → Int32) (s : Nat) : Nat := if s = 1 then dW d + dS d else if s = 2 then dW d - dS d else dW d
/-- lines, and what the last one takes, after k words -/
def brk (d : Nat → Int32) (p s : Nat) : Nat → Nat × Nat
  | 0 => (0, 0)
  | k + 1 => if 0 < (brk d p s k).1 ∧ (brk d p s k).2 + 1 + dV d p k ≤ hol d s then ((brk d p s k).1, (brk d p s k).2 + 1 + dV d p k) else ((brk d p s k).1 + 1, dV d p k)
/-- what each line takes, after k words -/
def tkn (d : Nat → Int32) (p s : Nat) : Nat → Nat → Nat
  | 0 => fun _ => 0
  | k + 1 => fun j => if j + 1 = (brk d p s (k + 1)).1 then (brk d p s (k + 1)).2 else tkn d p s k j
def cnt (d : Nat → Int32) (p s : Nat) : Nat := (brk d p s (dN d p)).1
theorem brk_le (d : Nat → Int32) (p s : Nat) : ∀ k, (brk d p s k).1 ≤ k
  | 0 => Nat.le_refl _
  | k + 1 => by
    have := brk_le d p s k
    unfold brk
    split <;> simp only <;> omega
theorem brk_pos (d : Nat → Int32) (p s : Nat) : ∀ k, 0 < k → 0 < (brk d p s k).1
  | 0, h => absurd h (Nat.lt_irrefl _)
  | k + 1, _ => by
    unfold brk
    split
    · next h => exact h.1
    · exact Nat.succ_pos _
theorem brk_used {d : Nat → Int32} (h : OkB d) {p : Nat} (hp : p < dP d) (s : Nat) : ∀ k, k ≤ dN d p → (brk d p s k).2 ≤ 70
  | 0, _ => by unfold brk; simp
  | k + 1, hk => by
    have h1 := h.v60 hp (show k < dN d p by omega)
    have h2 := h.w60
    have h3 := h.s9
    unfold brk
    split
    · next q => unfold hol at q; simp only; split at q <;> (try split at q) <;> omega
    · simp only; omega
theorem cnt_le {d : Nat → Int32} (h : OkB d) {p : Nat} (hp : p < dP d) (s : Nat) : cnt d p s ≤ 30 := Nat.le_trans (brk_le d p s _) (h.n30 hp)
theorem cnt_pos {d : Nat → Int32} (h : OkB d) {p : Nat} (hp : p < dP d) (s : Nat) : 1 ≤ cnt d p s := brk_pos d p s _ (h.n1 hp)
/-! costs -/
def sta (d : Nat → Int32) (p line : Nat) : Bool := decide (line = 0) && dB d p
def must (d : Nat → Int32) (st : Bool) (n : Nat) : Bool := if n ≤ 0 then false else if st = false then (if n < dH d then false else true) else true
def canE (d : Nat → Int32) (n : Nat) : Bool := if n ≤ 0 then false else if dL d < dH d - n then false else true
def eC (d : Nat → Int32) (st : Bool) (n : Nat) : Nat := if st = false then (dH d - n) * dC d 2 else 0
def isWd (line c : Nat) : Bool := if c < 2 then false else if line = c - 1 then true else false
def isOr (line c : Nat) : Bool := if c < 2 then false else if line = 1 then true else false
def isHg (d : Nat → Int32) (p line : Nat) : Bool := decide (line = 0) && (decide (0 < p) && dHd d (p - 1))
def bC (d : Nat → Int32) (p line c : Nat) : Nat := (if isWd line c then dC d 3 else 0) + (if isOr line c then dC d 4 else 0) + (if isHg d p line then dC d 5 else 0)
def sC (d : Nat → Int32) (s c : Nat) : Nat := if s = 0 then 0 else c * dC d (s - 1)
/-- the costs from the line c - i of paragraph p (of c lines) on, with n lines on the page; nx: of what is behind the paragraph -/
def Wl (d : Nat → Int32) (p c : Nat) (nx : Nat → Nat) : Nat → Nat → Nat
  | 0, n => nx n
  | i + 1, n => if must d (sta d p (c - (i + 1))) n || (canE d n && decide (eC d (sta d p (c - (i + 1))) n + (bC d p (c - (i + 1)) c + Wl d p c nx i 1) < Wl d p c nx i (n + 1))) then eC d (sta d p (c - (i + 1))) n + (bC d p (c - (i + 1)) c + Wl d p c nx i 1) else Wl d p c nx i (n + 1)
/-- whether the page ends ahead of the line c - (i + 1) -/
def en (d : Nat → Int32) (p c : Nat) (nx : Nat → Nat) (i n : Nat) : Bool := must d (sta d p (c - (i + 1))) n || (canE d n && decide (eC d (sta d p (c - (i + 1))) n + (bC d p (c - (i + 1)) c + Wl d p c nx i 1) < Wl d p c nx i (n + 1)))
theorem Wl_en (d : Nat → Int32) (p c : Nat) (nx : Nat → Nat) (i n : Nat) : Wl d p c nx (i + 1) n = if en d p c nx i n then eC d (sta d p (c - (i + 1))) n + (bC d p (c - (i + 1)) c + Wl d p c nx i 1) else Wl d p c nx i (n + 1) := rfl
def cS (d : Nat → Int32) (p : Nat) (nx : Nat → Nat) (s n : Nat) : Nat := sC d s (cnt d p s) + Wl d p (cnt d p s) nx (cnt d p s) n
def bS (d : Nat → Int32) (p : Nat) (nx : Nat → Nat) (n : Nat) : Nat :=
  if dF d p = -1 then (if cS d p nx 1 n < cS d p nx 0 n then (if cS d p nx 2 n < cS d p nx 1 n then 2 else 1) else (if cS d p nx 2 n < cS d p nx 0 n then 2 else 0)) else nz (dF d p)
/-- the costs of the last j paragraphs, with n lines on the page -/
def VR (d : Nat → Int32) : Nat → Nat → Nat
  | 0 => fun _ => 0
  | j + 1 => fun n => cS d (dP d - (j + 1)) (VR d j) (bS d (dP d - (j + 1)) (VR d j) n) n
/-! bounds -/
theorem eC_le {d : Nat → Int32} (h : OkB d) (st : Bool) (n : Nat) : eC d st n ≤ 39960 := by
  unfold eC
  split
  · have h1 := h.c999 (k := 2) (by decide)
    have h2 := h.h40
    exact Nat.le_trans (Nat.mul_le_mul (show dH d - n ≤ 40 by omega) h1) (by decide)
  · omega
theorem bC_le {d : Nat → Int32} (h : OkB d) (p line c : Nat) : bC d p line c ≤ 2997 := by
  have h1 := h.c999 (k := 3) (by decide)
  have h2 := h.c999 (k := 4) (by decide)
  have h3 := h.c999 (k := 5) (by decide)
  unfold bC
  split <;> split <;> split <;> omega
theorem sC_le {d : Nat → Int32} (h : OkB d) {s c : Nat} (hs : s < 3) (hc : c ≤ 30) : sC d s c ≤ 29970 := by
  unfold sC
  split
  · omega
  · exact Nat.le_trans (Nat.mul_le_mul hc (h.c999 (k := s - 1) (by omega))) (by decide)
theorem Wl_le {d : Nat → Int32} (h : OkB d) (p c : Nat) {nx : Nat → Nat} {M : Nat} (hn : ∀ n, nx n ≤ M) : ∀ i n, Wl d p c nx i n ≤ M + i * 42957
  | 0, n => by unfold Wl; rw [Nat.zero_mul]; exact hn n
  | i + 1, n => by
    have h1 := Wl_le h p c hn i 1
    have h2 := Wl_le h p c hn i (n + 1)
    have h3 := eC_le h (sta d p (c - (i + 1))) n
    have h4 := bC_le h p (c - (i + 1)) c
    rw [Wl_en, Nat.succ_mul]
    generalize i * 42957 = X at *
    split <;> omega
theorem bS_lt {d : Nat → Int32} (h : OkB d) {p : Nat} (hp : p < dP d) (nx : Nat → Nat) (n : Nat) : bS d p nx n < 3 := by
  unfold bS
  split
  · split <;> split <;> omega
  · next hf =>
    rcases h.f hp with e | e | e | e
    · exact absurd e hf
    · rw [e, nz_nI (by decide)]; decide
    · rw [e, nz_nI (by decide)]; decide
    · rw [e, nz_nI (by decide)]; decide
theorem cS_le {d : Nat → Int32} (h : OkB d) {p s : Nat} (hp : p < dP d) (hs : s < 3) {nx : Nat → Nat} {M : Nat} (hn : ∀ n, nx n ≤ M) (n : Nat) : cS d p nx s n ≤ M + 1318680 := by
  have h1 := cnt_le h hp s
  have h2 := Wl_le h p (cnt d p s) hn (cnt d p s) n
  have h3 := sC_le h hs h1
  unfold cS
  omega
theorem VR_le {d : Nat → Int32} (h : OkB d) : ∀ j, j ≤ dP d → ∀ n, VR d j n ≤ j * 1318680
  | 0, _, n => Nat.zero_le _
  | j + 1, hj, n => by
    have hp : dP d - (j + 1) < dP d := by omega
    have h1 := cS_le h hp (bS_lt h hp (VR d j) n) (VR_le h j (by omega)) n
    unfold VR
    rw [Nat.succ_mul]
    exact h1
theorem VR_lt {d : Nat → Int32} (h : OkB d) {j : Nat} (hj : j ≤ dP d) (n : Nat) : VR d j n ≤ 21098880 := by
  have h1 := VR_le h j hj n
  have h2 := h.p16
  have h3 : j * 1318680 ≤ 16 * 1318680 := Nat.mul_le_mul_right _ (by omega)
  omega
/-! plans: how many pages, and of each its first paragraph, its first line, its lines -/
abbrev Pl : Type := Nat × (Nat → Nat) × (Nat → Nat) × (Nat → Nat)
def pl0 : Pl := (0, fun _ => 0, fun _ => 0, fun _ => 0)
def upN (f : Nat → Nat) (k v : Nat) : Nat → Nat := fun j => if j = k then v else f j
theorem upN_s {f : Nat → Nat} {k v : Nat} : upN f k v k = v := if_pos rfl
theorem upN_n {f : Nat → Nat} {k v j : Nat} (h : j ≠ k) : upN f k v j = f j := if_neg h
def onP (q : Pl) : Nat := if q.1 = 0 then 0 else q.2.2.2 (q.1 - 1)
def addL (q : Pl) (p line : Nat) (e : Bool) : Pl := if e || decide (q.1 = 0) then (q.1 + 1, upN q.2.1 q.1 p, upN q.2.2.1 q.1 line, upN q.2.2.2 q.1 1) else (q.1, q.2.1, q.2.2.1, upN q.2.2.2 (q.1 - 1) (q.2.2.2 (q.1 - 1) + 1))
/-- k lines of paragraph p, f telling by line and by lines on the page whether the page ends -/
def lyL (p : Nat) (f : Nat → Nat → Bool) (q : Pl) : Nat → Pl
  | 0 => q
  | k + 1 => addL (lyL p f q k) p k (f k (onP (lyL p f q k)))
/-- the plan that ends pages where they must, in the settings sg -/
def lyP (d : Nat → Int32) (sg : Nat → Nat) : Nat → Pl
  | 0 => pl0
  | p + 1 => lyL p (fun line n => must d (sta d p line) n) (lyP d sg p) (cnt d p (sg p))
/-- the best plan's setting of paragraph p, q being the plan ahead of it -/
def stB (d : Nat → Int32) (p : Nat) (q : Pl) : Nat := bS d p (VR d (dP d - (p + 1))) (onP q)
def enB (d : Nat → Int32) (p s : Nat) (line n : Nat) : Bool := en d p (cnt d p s) (VR d (dP d - (p + 1))) (cnt d p s - (line + 1)) n
def lyB (d : Nat → Int32) : Nat → Pl
  | 0 => pl0
  | p + 1 => lyL p (enB d p (stB d p (lyB d p))) (lyB d p) (cnt d p (stB d p (lyB d p)))
def sgB (d : Nat → Int32) (p : Nat) : Nat := stB d p (lyB d p)
def sg0 : Nat → Nat := fun _ => 0
/-- one paragraph in another setting -/
def sg1 (x s : Nat) : Nat → Nat := fun p => if p = x then s else 0
theorem addL_pages (q : Pl) (p line : Nat) (e : Bool) : (addL q p line e).1 ≤ q.1 + 1 ∧ 1 ≤ (addL q p line e).1 ∧ q.1 ≤ (addL q p line e).1 := by
  unfold addL
  split
  · exact ⟨Nat.le_refl _, Nat.succ_pos _, Nat.le_succ _⟩
  · next h =>
    simp only [Bool.or_eq_true, decide_eq_true_eq, not_or] at h
    exact ⟨Nat.le_succ _, by simp only; omega, Nat.le_refl _⟩
theorem lyL_pages (p : Nat) (f : Nat → Nat → Bool) (q : Pl) : ∀ k, (lyL p f q k).1 ≤ q.1 + k
  | 0 => Nat.le_refl _
  | k + 1 => by
    have h1 := lyL_pages p f q k
    have h2 := (addL_pages (lyL p f q k) p k (f k (onP (lyL p f q k)))).1
    show (addL (lyL p f q k) p k (f k (onP (lyL p f q k)))).1 ≤ _
    omega
theorem lyP_pages {d : Nat → Int32} (h : OkB d) (sg : Nat → Nat) : ∀ p, p ≤ dP d → (lyP d sg p).1 ≤ 30 * p
  | 0, _ => Nat.le_refl _
  | p + 1, hp => by
    have h1 := lyP_pages h sg p (by omega)
    have h2 := lyL_pages p (fun line n => must d (sta d p line) n) (lyP d sg p) (cnt d p (sg p))
    have h3 := cnt_le h (show p < dP d by omega) (sg p)
    show (lyL p (fun line n => must d (sta d p line) n) (lyP d sg p) (cnt d p (sg p))).1 ≤ _
    omega
theorem lyB_pages {d : Nat → Int32} (h : OkB d) : ∀ p, p ≤ dP d → (lyB d p).1 ≤ 30 * p
  | 0, _ => Nat.le_refl _
  | p + 1, hp => by
    have h1 := lyB_pages h p (by omega)
    have h2 := lyL_pages p (enB d p (stB d p (lyB d p))) (lyB d p) (cnt d p (stB d p (lyB d p)))
    have h3 := cnt_le h (show p < dP d by omega) (stB d p (lyB d p))
    show (lyL p (enB d p (stB d p (lyB d p))) (lyB d p) (cnt d p (stB d p (lyB d p)))).1 ≤ _
    omega
