theorem addL_new {q : Pl} {p line : Nat} {e : Bool} (h : e = true ∨ q.1 = 0) : addL q p line e = (q.1 + 1, upN q.2.1 q.1 p, upN q.2.2.1 q.1 line, upN q.2.2.2 q.1 1) := by
  unfold addL
  rw [if_pos (by rcases h with h | h <;> simp [h])]
theorem addL_old {q : Pl} {p line : Nat} {e : Bool} (h : ¬ (e = true ∨ q.1 = 0)) : addL q p line e = (q.1, q.2.1, q.2.2.1, upN q.2.2.2 (q.1 - 1) (q.2.2.2 (q.1 - 1) + 1)) := by
  unfold addL
  rw [if_neg (by simpa using h)]
theorem en_0 {d : Nat → Int32} {p c : Nat} {nx : Nat → Nat} {i : Nat} : en d p c nx i 0 = false := rfl
/-! THE BEST PLAN COSTS WHAT THE TABLE SAYS -/
theorem sumN_congr {f g : Nat → Nat} : ∀ n, (∀ k, k < n → f k = g k) → sumN f n = sumN g n
  | 0, _ => rfl
  | n + 1, h => by
    show sumN f n + f n = sumN g n + g n
    rw [sumN_congr n (fun k hk => h k (by omega)), h n (Nat.lt_succ_self n)]
section BCT
variable {d : Nat → Int32} {q : Pl} {cf : Nat → Nat} {p line : Nat}
/-- what the pages cost that are laid -/
def pgC (d : Nat → Int32) (q : Pl) (cf : Nat → Nat) : Nat := sumN (termP d q cf 0) q.1
theorem pgC_next {e : Bool} (h1 : e = true) (hq : 0 < q.1) : pgC d (addL q p line e) cf = pgC d q cf + (eC d (sta d p line) (onP q) + bC d p line (cf p)) := by
  have ea := addL_new (q := q) (p := p) (line := line) (Or.inl h1)
  rw [ea]
  have eo : onP q = q.2.2.2 (q.1 - 1) := if_neg (by omega)
  obtain ⟨m, hm⟩ : ∃ m, q.1 = m + 1 := ⟨q.1 - 1, by omega⟩
  have low : sumN (termP d (q.1 + 1, upN q.2.1 q.1 p, upN q.2.2.1 q.1 line, upN q.2.2.2 q.1 1) cf 0) m = sumN (termP d q cf 0) m := sumN_congr m (fun k hk => by
    show pbC d _ cf k + peC d _ k = pbC d q cf k + peC d q k
    have e1 : pbC d (q.1 + 1, upN q.2.1 q.1 p, upN q.2.2.1 q.1 line, upN q.2.2.2 q.1 1) cf k = pbC d q cf k := by
      show (if k = 0 then 0 else bC d (upN q.2.1 q.1 p k) (upN q.2.2.1 q.1 line k) (cf (upN q.2.1 q.1 p k))) = _
      rw [upN_n (by omega), upN_n (by omega)]
      rfl
    have e2 : peC d (q.1 + 1, upN q.2.1 q.1 p, upN q.2.2.1 q.1 line, upN q.2.2.2 q.1 1) k = peC d q k := by
      show (if k = q.1 + 1 - 1 then 0 else eC d (sta d (upN q.2.1 q.1 p (k + 1)) (upN q.2.2.1 q.1 line (k + 1))) (upN q.2.2.2 q.1 1 k)) = _
      unfold peC
      rw [upN_n (by omega), upN_n (by omega), upN_n (by omega), if_neg (by omega), if_neg (by omega)]
    rw [e1, e2])
  have mid : termP d (q.1 + 1, upN q.2.1 q.1 p, upN q.2.2.1 q.1 line, upN q.2.2.2 q.1 1) cf 0 m = pbC d q cf m + eC d (sta d p line) (q.2.2.2 m) := by
    show (if m = 0 then 0 else bC d (upN q.2.1 q.1 p m) (upN q.2.2.1 q.1 line m) (cf (upN q.2.1 q.1 p m))) + (if m = q.1 + 1 - 1 then 0 else eC d (sta d (upN q.2.1 q.1 p (m + 1)) (upN q.2.2.1 q.1 line (m + 1))) (upN q.2.2.2 q.1 1 m)) = _
    have a1 : upN q.2.1 q.1 p m = q.2.1 m := upN_n (by omega)
    have a2 : upN q.2.2.1 q.1 line m = q.2.2.1 m := upN_n (by omega)
    have a3 : upN q.2.2.2 q.1 1 m = q.2.2.2 m := upN_n (by omega)
    have a4 : upN q.2.1 q.1 p (m + 1) = p := by rw [← hm]; exact upN_s
    have a5 : upN q.2.2.1 q.1 line (m + 1) = line := by rw [← hm]; exact upN_s
    rw [a1, a2, a3, a4, a5, if_neg (show ¬ m = q.1 + 1 - 1 by omega)]
    rfl
  have old : termP d q cf 0 m = pbC d q cf m := by
    show pbC d q cf m + (if m = q.1 - 1 then 0 else _) = _
    rw [if_pos (by omega)]
    rfl
  have top : termP d (q.1 + 1, upN q.2.1 q.1 p, upN q.2.2.1 q.1 line, upN q.2.2.2 q.1 1) cf 0 (m + 1) = bC d p line (cf p) := by
    rw [← hm]
    show (if q.1 = 0 then 0 else bC d (upN q.2.1 q.1 p q.1) (upN q.2.2.1 q.1 line q.1) (cf (upN q.2.1 q.1 p q.1))) + (if q.1 = q.1 + 1 - 1 then 0 else _) = _
    rw [if_neg (by omega), if_pos (by omega), upN_s, upN_s]
    rfl
  unfold pgC
  show sumN (termP d (q.1 + 1, upN q.2.1 q.1 p, upN q.2.2.1 q.1 line, upN q.2.2.2 q.1 1) cf 0) (q.1 + 1) = sumN (termP d q cf 0) q.1 + _
  have s1 : sumN (termP d (q.1 + 1, upN q.2.1 q.1 p, upN q.2.2.1 q.1 line, upN q.2.2.2 q.1 1) cf 0) (q.1 + 1) = sumN (termP d (q.1 + 1, upN q.2.1 q.1 p, upN q.2.2.1 q.1 line, upN q.2.2.2 q.1 1) cf 0) m + termP d (q.1 + 1, upN q.2.1 q.1 p, upN q.2.2.1 q.1 line, upN q.2.2.2 q.1 1) cf 0 m + termP d (q.1 + 1, upN q.2.1 q.1 p, upN q.2.2.1 q.1 line, upN q.2.2.2 q.1 1) cf 0 (m + 1) := by
    generalize termP d (q.1 + 1, upN q.2.1 q.1 p, upN q.2.2.1 q.1 line, upN q.2.2.2 q.1 1) cf 0 = F
    rw [hm]
    rfl
  have s2 : sumN (termP d q cf 0) q.1 = sumN (termP d q cf 0) m + termP d q cf 0 m := by
    generalize termP d q cf 0 = F
    rw [hm]
    rfl
  rw [s1, s2, low, mid, old, top, eo, show q.1 - 1 = m by omega]
  omega
theorem pgC_first {e : Bool} (hq : q.1 = 0) : pgC d (addL q p line e) cf = pgC d q cf := by
  have ea := addL_new (q := q) (p := p) (line := line) (e := e) (Or.inr hq)
  rw [ea]
  unfold pgC
  show sumN (termP d (q.1 + 1, upN q.2.1 q.1 p, upN q.2.2.1 q.1 line, upN q.2.2.2 q.1 1) cf 0) (q.1 + 1) = sumN (termP d q cf 0) q.1
  have t0 : termP d (q.1 + 1, upN q.2.1 q.1 p, upN q.2.2.1 q.1 line, upN q.2.2.2 q.1 1) cf 0 0 = 0 := by
    show (if 0 = 0 then 0 else _) + (if 0 = q.1 + 1 - 1 then 0 else _) = 0
    rw [if_pos rfl, if_pos (by omega)]
  generalize termP d (q.1 + 1, upN q.2.1 q.1 p, upN q.2.2.1 q.1 line, upN q.2.2.2 q.1 1) cf 0 = F at t0 ⊢
  rw [hq]
  show sumN F 0 + F 0 = 0
  rw [t0]
  rfl
theorem pgC_on {e : Bool} (hc : ¬ (e = true ∨ q.1 = 0)) : pgC d (addL q p line e) cf = pgC d q cf := by
  rw [addL_old hc]
  unfold pgC
  refine sumN_congr q.1 (fun k hk => ?_)
  show pbC d _ cf k + peC d _ k = pbC d q cf k + peC d q k
  have e2 : peC d (q.1, q.2.1, q.2.2.1, upN q.2.2.2 (q.1 - 1) (q.2.2.2 (q.1 - 1) + 1)) k = peC d q k := by
    show (if k = q.1 - 1 then 0 else eC d (sta d (q.2.1 (k + 1)) (q.2.2.1 (k + 1))) (upN q.2.2.2 (q.1 - 1) (q.2.2.2 (q.1 - 1) + 1) k)) = _
    unfold peC
    by_cases g : k = q.1 - 1
    · rw [if_pos g, if_pos g]
    · rw [if_neg g, if_neg g, upN_n g]
  rw [e2]
  rfl
theorem onP_addL {e : Bool} : onP (addL q p line e) = if e = true ∨ q.1 = 0 then 1 else onP q + 1 := by
  by_cases hc : e = true ∨ q.1 = 0
  · rw [if_pos hc, addL_new hc]
    show (if q.1 + 1 = 0 then 0 else upN q.2.2.2 q.1 1 (q.1 + 1 - 1)) = 1
    rw [if_neg (by omega), Nat.add_sub_cancel, upN_s]
  · rw [if_neg hc, addL_old hc]
    show (if q.1 = 0 then 0 else upN q.2.2.2 (q.1 - 1) (q.2.2.2 (q.1 - 1) + 1) (q.1 - 1)) = (if q.1 = 0 then 0 else q.2.2.2 (q.1 - 1)) + 1
    rw [if_neg (fun z => hc (Or.inr z)), if_neg (fun z => hc (Or.inr z)), upN_s]
theorem line_cost {nx : Nat → Nat} {c : Nat} (hcf : cf p = c) (f : Nat → Nat → Bool) (hf : ∀ line n, f line n = en d p c nx (c - (line + 1)) n) : ∀ k, k ≤ c → pgC d (lyL p f q k) cf + Wl d p c nx (c - k) (onP (lyL p f q k)) = pgC d q cf + Wl d p c nx c (onP q)
  | 0, _ => rfl
  | k + 1, hk => by
    have ih := line_cost hcf f hf k (by omega)
    rw [← ih]
    show pgC d (addL (lyL p f q k) p k (f k (onP (lyL p f q k)))) cf + Wl d p c nx (c - (k + 1)) (onP (addL (lyL p f q k) p k (f k (onP (lyL p f q k))))) = _
    generalize lyL p f q k = z
    have hw := Wl_en d p c nx (c - (k + 1)) (onP z)
    rw [show c - (k + 1) + 1 = c - k by omega, ← hf, show c - (c - k) = k by omega] at hw
    rw [hw, onP_addL]
    by_cases h0 : z.1 = 0
    · have ez : onP z = 0 := if_pos h0
      have ef : f k (onP z) = false := by rw [hf, ez, en_0]
      rw [pgC_first h0, if_pos (Or.inr h0), ef, if_neg (by decide), ez]
    · cases hfe : f k (onP z)
      · rw [pgC_on (by simp [h0]), if_neg (by simp [h0]), if_neg (by decide)]
      · rw [pgC_next rfl (by omega), if_pos (Or.inl rfl), if_pos rfl, hcf]
        omega
theorem best_cost (hO : OkB d) : ∀ p, p ≤ dP d → sumN (fun p => sC d (sgB d p) (cnt d p (sgB d p))) p + pgC d (lyB d p) (fun p => cnt d p (sgB d p)) + VR d (dP d - p) (onP (lyB d p)) = VR d (dP d) 0
  | 0, _ => by
    show 0 + 0 + VR d (dP d - 0) 0 = VR d (dP d) 0
    rw [Nat.sub_zero]
    omega
  | p + 1, hp => by
    have ih := best_cost hO p (by omega)
    rw [VR_at (show p < dP d by omega)] at ih
    have eb : bS d p (VR d (dP d - (p + 1))) (onP (lyB d p)) = sgB d p := rfl
    rw [eb] at ih
    have hl := line_cost (d := d) (q := lyB d p) (cf := fun p => cnt d p (sgB d p)) (p := p) (nx := VR d (dP d - (p + 1))) (c := cnt d p (sgB d p)) rfl (enB d p (sgB d p)) (fun line n => rfl) (cnt d p (sgB d p)) (Nat.le_refl _)
    rw [Nat.sub_self] at hl
    have e1 : lyB d (p + 1) = lyL p (enB d p (sgB d p)) (lyB d p) (cnt d p (sgB d p)) := rfl
    have e2 : sumN (fun p => sC d (sgB d p) (cnt d p (sgB d p))) (p + 1) = sumN (fun p => sC d (sgB d p) (cnt d p (sgB d p))) p + sC d (sgB d p) (cnt d p (sgB d p)) := rfl
    have e3 : ∀ n, Wl d p (cnt d p (sgB d p)) (VR d (dP d - (p + 1))) 0 n = VR d (dP d - (p + 1)) n := fun n => rfl
    rw [e3] at hl
    rw [e1, e2]
    unfold cS at ih
    omega
theorem best_numP (hO : OkB d) : numP d (lyB d (dP d)) (sgB d) 0 = VR d (dP d) 0 := by
  have h := best_cost hO (dP d) (Nat.le_refl _)
  rw [Nat.sub_self] at h
  have e : VR d 0 (onP (lyB d (dP d))) = 0 := rfl
  rw [e] at h
  unfold numP
  rw [if_pos rfl]
  unfold pgC at h
  omega
end BCT
