/-! THE SEARCH'S RESULT: the first of the cheapest; what the table chooses from here on -/
/-- the book is as small as the law's are -/
def Sm (d : Nat → Int32) : Prop := dP d ≤ 3 ∧ dH d ≤ 4 ∧ dL d ≤ 2 ∧ (∀ k, k < 6 → dC d k ≤ 39) ∧ (∀ p, p < dP d → dN d p ≤ 5) ∧ dW d ≤ 17 ∧ dS d ≤ 4
/-- .. as the search needs it: a book without paragraphs may have any page -/
def SmB (d : Nat → Int32) : Prop := dP d ≤ 3 ∧ (dP d = 0 ∨ dH d ≤ 4) ∧ dL d ≤ 2 ∧ (∀ k, k < 6 → dC d k ≤ 39) ∧ (∀ p, p < dP d → dN d p ≤ 5) ∧ True
theorem Sm.toB {d : Nat → Int32} (h : Sm d) : SmB d := ⟨h.1, Or.inr h.2.1, h.2.2.1, h.2.2.2.1, h.2.2.2.2.1, trivial⟩
abbrev Ch : Type := (Nat → Nat) × Pl
def cnL (d : Nat → Int32) (p c : Nat) (nx : Nat → Nat) : Nat → Pl → Pl
  | 0, q => q
  | i + 1, q => cnL d p c nx i (addL q p (c - (i + 1)) (en d p c nx i (onP q)))
def xS (d : Nat → Int32) (p : Nat) (nx : Nat → Nat) (s : Nat) (x : Ch) : Ch := (upN x.1 p s, cnL d p (cnt d p s) nx (cnt d p s) x.2)
def cnP (d : Nat → Int32) : Nat → Ch → Ch
  | 0, x => x
  | j + 1, x => cnP d j (xS d (dP d - (j + 1)) (VR d j) (bS d (dP d - (j + 1)) (VR d j) (onP x.2)) x)
def upB (B : Option (Nat × Ch)) (v : Nat) (x : Ch) : Option (Nat × Ch) := match B with
  | none => some (v, x)
  | some y => if v < y.1 then some (v, x) else some y
def pot (B : Option (Nat × Ch)) : Nat := match B with
  | none => 3511
  | some y => if y.1 < 3511 then y.1 else 3511
section UPB
variable {B : Option (Nat × Ch)} {v w : Nat} {x y : Ch}
theorem pot_up : pot (upB B v x) ≤ pot B := by
  cases B with
  | none => show (if v < 3511 then v else 3511) ≤ 3511; split <;> omega
  | some z =>
    show pot (if v < z.1 then some (v, x) else some z) ≤ pot (some z)
    split
    · show (if v < 3511 then v else 3511) ≤ if z.1 < 3511 then z.1 else 3511
      split <;> split <;> omega
    · exact Nat.le_refl _
theorem upB_up : upB (upB B v x) w y = if w < v then upB B w y else upB B v x := by
  cases B with
  | none => rfl
  | some z =>
    show upB (if v < z.1 then some (v, x) else some z) w y = if w < v then (if w < z.1 then some (w, y) else some z) else (if v < z.1 then some (v, x) else some z)
    by_cases h1 : v < z.1
    · rw [if_pos h1]
      show (if w < v then some (w, y) else some (v, x)) = _
      by_cases h2 : w < v
      · rw [if_pos h2, if_pos h2, if_pos (by omega)]
      · rw [if_neg h2, if_neg h2]
    · rw [if_neg h1]
      show (if w < z.1 then some (w, y) else some z) = _
      by_cases h2 : w < v
      · rw [if_pos h2]
      · rw [if_neg h2, if_neg (by omega)]
end UPB
section CNT
variable {d : Nat → Int32} {q : Pl} {p c i on : Nat} {nx : Nat → Nat} {B : Option (Nat × Ch)}
/-- the target of a line's search -/
def tgL (d : Nat → Int32) (p c j i : Nat) (sg : Nat → Nat) (B : Option (Nat × Ch)) (co : Nat) (q : Pl) : Option (Nat × Ch) := upB B (co + Wl d p c (VR d j) i (onP q)) (cnP d j (sg, cnL d p c (VR d j) i q))
theorem en_must (h : must d (sta d p (c - (i + 1))) on = true) : en d p c nx i on = true := by unfold en; rw [h]; rfl
theorem en_no (h : must d (sta d p (c - (i + 1))) on = false) (h2 : canE d on = false) : en d p c nx i on = false := by unfold en; rw [h, h2]; rfl
theorem en_both (h : must d (sta d p (c - (i + 1))) on = false) (h2 : canE d on = true) : en d p c nx i on = decide (eC d (sta d p (c - (i + 1))) on + (bC d p (c - (i + 1)) c + Wl d p c nx i 1) < Wl d p c nx i (on + 1)) := by unfold en; rw [h, h2]; rfl
variable {j co : Nat} {sg : Nat → Nat}
theorem onP_end : onP (addL q p c true) = 1 := by rw [onP_addL, if_pos (Or.inl rfl)]
theorem onP_on (hq : 0 < q.1) : onP (addL q p c false) = onP q + 1 := by rw [onP_addL, if_neg (fun z => z.elim (fun h => by cases h) (fun h => by omega))]
theorem onP_fst {e : Bool} (hq : q.1 = 0) : onP (addL q p c e) = 1 := by rw [onP_addL, if_pos (Or.inr hq)]
theorem tgL_must (h : must d (sta d p (c - (i + 1))) (onP q) = true) : tgL d p c j (i + 1) sg B co q = tgL d p c j i sg B (co + eC d (sta d p (c - (i + 1))) (onP q) + bC d p (c - (i + 1)) c) (addL q p (c - (i + 1)) true) := by
  have e := en_must (nx := VR d j) h
  unfold tgL
  rw [Wl_en, e, if_pos rfl, onP_end]
  show upB B _ (cnP d j (sg, cnL d p c (VR d j) i (addL q p (c - (i + 1)) (en d p c (VR d j) i (onP q))))) = _
  rw [e]
  congr 1
  omega
theorem tgL_no (hq : 0 < q.1) (h : must d (sta d p (c - (i + 1))) (onP q) = false) (h2 : canE d (onP q) = false) : tgL d p c j (i + 1) sg B co q = tgL d p c j i sg B co (addL q p (c - (i + 1)) false) := by
  have e := en_no (nx := VR d j) h h2
  unfold tgL
  rw [Wl_en, e, if_neg (by decide), onP_on hq]
  show upB B _ (cnP d j (sg, cnL d p c (VR d j) i (addL q p (c - (i + 1)) (en d p c (VR d j) i (onP q))))) = _
  rw [e]
theorem tgL_both (hq : 0 < q.1) (h : must d (sta d p (c - (i + 1))) (onP q) = false) (h2 : canE d (onP q) = true) : tgL d p c j (i + 1) sg B co q = tgL d p c j i sg (tgL d p c j i sg B co (addL q p (c - (i + 1)) false)) (co + eC d (sta d p (c - (i + 1))) (onP q) + bC d p (c - (i + 1)) c) (addL q p (c - (i + 1)) true) := by
  have e := en_both (nx := VR d j) h h2
  unfold tgL
  rw [upB_up, Wl_en, onP_on hq, onP_end]
  show upB B _ (cnP d j (sg, cnL d p c (VR d j) i (addL q p (c - (i + 1)) (en d p c (VR d j) i (onP q))))) = _
  by_cases h3 : eC d (sta d p (c - (i + 1))) (onP q) + (bC d p (c - (i + 1)) c + Wl d p c (VR d j) i 1) < Wl d p c (VR d j) i (onP q + 1)
  · rw [decide_eq_true h3] at e
    rw [e, if_pos rfl, if_pos (by omega)]
    congr 1
    omega
  · rw [decide_eq_false h3] at e
    rw [e, if_neg (by decide), if_neg (by omega)]
theorem tgL_fst (hq : q.1 = 0) : tgL d p c j (i + 1) sg B co q = tgL d p c j i sg B co (addL q p (c - (i + 1)) false) := by
  have e0 : onP q = 0 := if_pos hq
  have e : en d p c (VR d j) i (onP q) = false := by rw [e0]; exact en_0
  unfold tgL
  rw [Wl_en, e, if_neg (by decide), onP_fst hq, e0]
  show upB B _ (cnP d j (sg, cnL d p c (VR d j) i (addL q p (c - (i + 1)) (en d p c (VR d j) i (onP q))))) = _
  rw [e]
/-- what is best after the settings below s -/
def bsF (d : Nat → Int32) (j co : Nat) (B : Option (Nat × Ch)) (x : Ch) : Nat → Option (Nat × Ch)
  | 0 => B
  | s + 1 => if dF d (dP d - (j + 1)) = -1 ∨ dF d (dP d - (j + 1)) = nI s then upB (bsF d j co B x s) (co + cS d (dP d - (j + 1)) (VR d j) s (onP x.2)) (cnP d j (xS d (dP d - (j + 1)) (VR d j) s x)) else bsF d j co B x s
theorem pot_bs1 {x : Ch} (s : Nat) : pot (bsF d j co B x (s + 1)) ≤ pot (bsF d j co B x s) := by
  show pot (if _ then _ else _) ≤ _
  split
  · exact pot_up
  · exact Nat.le_refl _
theorem pot_bs {x : Ch} (s : Nat) : ∀ r, pot (bsF d j co B x (s + r)) ≤ pot (bsF d j co B x s)
  | 0 => Nat.le_refl _
  | r + 1 => Nat.le_trans (pot_bs1 (s + r)) (pot_bs s r)
theorem bs_3 {x : Ch} (hO : OkB d) (hj : j < dP d) : bsF d j co B x 3 = upB B (co + VR d (j + 1) (onP x.2)) (cnP d (j + 1) x) := by
  have hp : dP d - (j + 1) < dP d := by omega
  show (if dF d (dP d - (j + 1)) = -1 ∨ dF d (dP d - (j + 1)) = nI 2 then upB (if dF d (dP d - (j + 1)) = -1 ∨ dF d (dP d - (j + 1)) = nI 1 then upB (if dF d (dP d - (j + 1)) = -1 ∨ dF d (dP d - (j + 1)) = nI 0 then upB B (co + cS d (dP d - (j + 1)) (VR d j) 0 (onP x.2)) (cnP d j (xS d (dP d - (j + 1)) (VR d j) 0 x)) else B) (co + cS d (dP d - (j + 1)) (VR d j) 1 (onP x.2)) (cnP d j (xS d (dP d - (j + 1)) (VR d j) 1 x)) else (if dF d (dP d - (j + 1)) = -1 ∨ dF d (dP d - (j + 1)) = nI 0 then upB B (co + cS d (dP d - (j + 1)) (VR d j) 0 (onP x.2)) (cnP d j (xS d (dP d - (j + 1)) (VR d j) 0 x)) else B)) (co + cS d (dP d - (j + 1)) (VR d j) 2 (onP x.2)) (cnP d j (xS d (dP d - (j + 1)) (VR d j) 2 x)) else (if dF d (dP d - (j + 1)) = -1 ∨ dF d (dP d - (j + 1)) = nI 1 then upB (if dF d (dP d - (j + 1)) = -1 ∨ dF d (dP d - (j + 1)) = nI 0 then upB B (co + cS d (dP d - (j + 1)) (VR d j) 0 (onP x.2)) (cnP d j (xS d (dP d - (j + 1)) (VR d j) 0 x)) else B) (co + cS d (dP d - (j + 1)) (VR d j) 1 (onP x.2)) (cnP d j (xS d (dP d - (j + 1)) (VR d j) 1 x)) else (if dF d (dP d - (j + 1)) = -1 ∨ dF d (dP d - (j + 1)) = nI 0 then upB B (co + cS d (dP d - (j + 1)) (VR d j) 0 (onP x.2)) (cnP d j (xS d (dP d - (j + 1)) (VR d j) 0 x)) else B))) = _
  have eV : VR d (j + 1) (onP x.2) = cS d (dP d - (j + 1)) (VR d j) (bS d (dP d - (j + 1)) (VR d j) (onP x.2)) (onP x.2) := rfl
  have eX : cnP d (j + 1) x = cnP d j (xS d (dP d - (j + 1)) (VR d j) (bS d (dP d - (j + 1)) (VR d j) (onP x.2)) x) := rfl
  rw [eV, eX]
  generalize dP d - (j + 1) = p at hp ⊢
  rcases hO.f hp with e | e | e | e
  · have hb : bS d p (VR d j) (onP x.2) = (if cS d p (VR d j) 1 (onP x.2) < cS d p (VR d j) 0 (onP x.2) then (if cS d p (VR d j) 2 (onP x.2) < cS d p (VR d j) 1 (onP x.2) then 2 else 1) else (if cS d p (VR d j) 2 (onP x.2) < cS d p (VR d j) 0 (onP x.2) then 2 else 0)) := if_pos e
    rw [if_pos (Or.inl e), if_pos (Or.inl e), if_pos (Or.inl e), hb]
    rw [upB_up (B := B)]
    by_cases h1 : cS d p (VR d j) 1 (onP x.2) < cS d p (VR d j) 0 (onP x.2)
    · rw [if_pos h1, if_pos (by omega), upB_up]
      by_cases h2 : cS d p (VR d j) 2 (onP x.2) < cS d p (VR d j) 1 (onP x.2)
      · rw [if_pos h2, if_pos (by omega)]
      · rw [if_neg h2, if_neg (by omega)]
    · rw [if_neg h1, if_neg (by omega), upB_up]
      by_cases h2 : cS d p (VR d j) 2 (onP x.2) < cS d p (VR d j) 0 (onP x.2)
      · rw [if_pos h2, if_pos (by omega)]
      · rw [if_neg h2, if_neg (by omega)]
  · have hb : bS d p (VR d j) (onP x.2) = 0 := by unfold bS; rw [e, if_neg (by decide), nz_nI (by decide)]
    rw [hb, if_neg (by rw [e]; decide), if_neg (by rw [e]; decide), if_pos (Or.inr e)]
  · have hb : bS d p (VR d j) (onP x.2) = 1 := by unfold bS; rw [e, if_neg (by decide), nz_nI (by decide)]
    rw [hb, if_neg (by rw [e]; decide), if_pos (Or.inr e), if_neg (by rw [e]; decide)]
  · have hb : bS d p (VR d j) (onP x.2) = 2 := by unfold bS; rw [e, if_neg (by decide), nz_nI (by decide)]
    rw [hb, if_pos (Or.inr e), if_neg (by rw [e]; decide), if_neg (by rw [e]; decide)]
/-- from the start the choices are the best plan's -/
theorem cnL_ly {f : Nat → Nat → Bool} (hf : ∀ l n, f l n = en d p c nx (c - (l + 1)) n) : ∀ i, i ≤ c → cnL d p c nx i (lyL p f q (c - i)) = lyL p f q c
  | 0, _ => rfl
  | i + 1, hi => by
    have ih := cnL_ly hf i (by omega)
    have e : c - i = (c - (i + 1)) + 1 := by omega
    rw [e] at ih
    have e2 : f (c - (i + 1)) (onP (lyL p f q (c - (i + 1)))) = en d p c nx i (onP (lyL p f q (c - (i + 1)))) := by
      rw [hf, show c - (c - (i + 1) + 1) = i by omega]
    show cnL d p c nx i (addL (lyL p f q (c - (i + 1))) p (c - (i + 1)) (en d p c nx i (onP (lyL p f q (c - (i + 1)))))) = _
    rw [← e2]
    exact ih
theorem cnP_B : ∀ j, j ≤ dP d → ∀ sg, (∀ k, k < dP d - j → sg k = sgB d k) → (∀ k, k < dP d → (cnP d j (sg, lyB d (dP d - j))).1 k = sgB d k) ∧ (cnP d j (sg, lyB d (dP d - j))).2 = lyB d (dP d)
  | 0, _, sg, h => ⟨h, rfl⟩
  | j + 1, hj, sg, h => by
    have e : dP d - j = (dP d - (j + 1)) + 1 := by omega
    have ej : dP d - (dP d - (j + 1) + 1) = j := by omega
    have es : bS d (dP d - (j + 1)) (VR d j) (onP (lyB d (dP d - (j + 1)))) = sgB d (dP d - (j + 1)) := by
      show _ = stB d _ _
      unfold stB
      rw [ej]
    have ex : xS d (dP d - (j + 1)) (VR d j) (sgB d (dP d - (j + 1))) (sg, lyB d (dP d - (j + 1))) = (upN sg (dP d - (j + 1)) (sgB d (dP d - (j + 1))), lyB d (dP d - j)) := by
      have e9 := cnL_ly (d := d) (p := dP d - (j + 1)) (c := cnt d (dP d - (j + 1)) (sgB d (dP d - (j + 1)))) (nx := VR d j) (q := lyB d (dP d - (j + 1))) (f := enB d (dP d - (j + 1)) (sgB d (dP d - (j + 1)))) (fun l n => by unfold enB; rw [ej]) _ (Nat.le_refl _)
      rw [Nat.sub_self] at e9
      rw [e]
      exact congrArg (Prod.mk _) e9
    have ih := cnP_B j (by omega) (upN sg (dP d - (j + 1)) (sgB d (dP d - (j + 1)))) (fun k hk => by
      by_cases g : k = dP d - (j + 1)
      · rw [g, upN_s]
      · rw [upN_n g]; exact h k (by omega))
    have e8 : cnP d (j + 1) (sg, lyB d (dP d - (j + 1))) = cnP d j (xS d (dP d - (j + 1)) (VR d j) (bS d (dP d - (j + 1)) (VR d j) (onP (lyB d (dP d - (j + 1))))) (sg, lyB d (dP d - (j + 1)))) := rfl
    rw [e8, es, ex]
    exact ih
/-- where pages begin, when a setting is laid down, when a line comes -/
theorem lp_up {sg : Nat → Nat} {p s x : Nat} (h : x ≤ p) : lp d (upN sg p s) x = lp d sg x := sumN_congr x (fun k hk => by rw [upN_n (show k ≠ p by omega)])
theorem fst1_up {sg : Nat → Nat} {p s k : Nat} (h : q.2.1 k ≤ p) : fst1 d (upN sg p s) q k = fst1 d sg q k := by
  unfold fst1
  rw [lp_up h]
theorem fst1_old {sg : Nat → Nat} {l k : Nat} {e : Bool} (h : k < q.1) : fst1 d sg (addL q p l e) k = fst1 d sg q k := by
  by_cases hc : e = true ∨ q.1 = 0
  · rw [addL_new hc]
    show lp d sg (upN q.2.1 q.1 p k) + upN q.2.2.1 q.1 l k = _
    rw [upN_n (by omega), upN_n (by omega)]
    rfl
  · rw [addL_old hc]
    rfl
theorem fst1_new {sg : Nat → Nat} {l : Nat} {e : Bool} (hc : e = true ∨ q.1 = 0) : fst1 d sg (addL q p l e) q.1 = lp d sg p + l := by
  rw [addL_new hc]
  show lp d sg (upN q.2.1 q.1 p q.1) + upN q.2.2.1 q.1 l q.1 = _
  rw [upN_s, upN_s]
theorem addL_1 {l : Nat} {e : Bool} (hc : e = true ∨ q.1 = 0) : (addL q p l e).1 = q.1 + 1 := by rw [addL_new hc]
theorem addL_0 {l : Nat} (hc : 0 < q.1) : (addL q p l false).1 = q.1 := by rw [addL_old (fun z => z.elim (fun h => by cases h) (fun h => by omega))]
theorem addL_par {l x : Nat} {e : Bool} (h : ∀ k, k < q.1 → q.2.1 k < x) (hp : p < x) : ∀ k, k < (addL q p l e).1 → (addL q p l e).2.1 k < x := by
  intro k hk
  by_cases hc : e = true ∨ q.1 = 0
  · rw [addL_new hc] at hk ⊢
    show upN q.2.1 q.1 p k < x
    by_cases g : k = q.1
    · rw [g, upN_s]; exact hp
    · rw [upN_n g]; exact h k (by have : k < q.1 + 1 := hk; omega)
  · rw [addL_old hc] at hk ⊢
    exact h k hk
end CNT
