/-! THE CLASS'S BOOK: its methods, said of d. -/
def CCosts (d : Nat → Int32) (costs : Nat → Int32) : Prop := ∀ k, k < 6 → costs k = nI (dC d k)
def CPar (d : Nat → Int32) (rows : Nat → Int32) (p : Nat) : Prop := rows (p * 34) = nI (dN d p) ∧ rows (p * 34 + 1) = bI (dHd d p) ∧ rows (p * 34 + 2) = bI (dB d p) ∧ rows (p * 34 + 3) = dF d p ∧ ∀ k, k < dN d p → rows (p * 34 + 4 + k) = nI (dV d p k)
def CRows (d : Nat → Int32) (rows : Nat → Int32) : Prop := ∀ p, p < dP d → CPar d rows p
/-- the class's book is d -/
def CB (d : Nat → Int32) (w h s l P : Int32) (costs rows : Nat → Int32) : Prop := w = nI (dW d) ∧ h = nI (dH d) ∧ s = nI (dS d) ∧ l = nI (dL d) ∧ P = nI (dP d) ∧ CCosts d costs ∧ CRows d rows
section CBK
variable {d : Nat → Int32} {costs rows : Nat → Int32} {p k n s c line : Nat} {Post : Int32 → Prop}
theorem wordsOf_e (hO : OkB d) (hR : CRows d rows) (hp : p < dP d) : wpX0_wordsOf rows (nI p) Post = Post (nI (dN d p)) := by
  have h16 := hO.p16
  unfold wpX0_wordsOf
  simp (disch := omega) only [li0, li1, li2, li3, li4, li5, li6, li7, li8, li9, li10, li11, li12, li13, li16, li20, li24, li30, li32, li34, li40, li41, li48, li57, li59, li60, li97, li122, li255, li555, li700, li999, li100000, li100000000, li1000000000, nI_add, pk_mul, nI_leI, nI_ltI, nI_eq, nI_clamp, sm_sub, vp_in_T, bI_eq0, bI_eq1, true_and, and_true, true_implies, false_implies, not_true_eq_false, not_false_eq_true, Nat.add_zero, Nat.zero_add, Nat.zero_mul, Nat.mul_zero, get_e]
  rw [(hR p hp).1]
theorem fixedTo_e (hO : OkB d) (hR : CRows d rows) (hp : p < dP d) : wpX0_fixedTo rows (nI p) Post = Post (dF d p) := by
  have h16 := hO.p16
  unfold wpX0_fixedTo
  simp (disch := omega) only [li0, li1, li2, li3, li4, li5, li6, li7, li8, li9, li10, li11, li12, li13, li16, li20, li24, li30, li32, li34, li40, li41, li48, li57, li59, li60, li97, li122, li255, li555, li700, li999, li100000, li100000000, li1000000000, nI_add, pk_mul, nI_leI, nI_ltI, nI_eq, nI_clamp, sm_sub, vp_in_T, bI_eq0, bI_eq1, true_and, and_true, true_implies, false_implies, not_true_eq_false, not_false_eq_true, Nat.add_zero, Nat.zero_add, Nat.zero_mul, Nat.mul_zero, get_e]
  rw [(hR p hp).2.2.2.1]
theorem isHeading_e (hO : OkB d) (hR : CRows d rows) (hp : p < dP d) : wpX0_isHeading rows (nI p) Post = Post (bI (dHd d p)) := by
  have h16 := hO.p16
  unfold wpX0_isHeading
  simp (disch := omega) only [li0, li1, li2, li3, li4, li5, li6, li7, li8, li9, li10, li11, li12, li13, li16, li20, li24, li30, li32, li34, li40, li41, li48, li57, li59, li60, li97, li122, li255, li555, li700, li999, li100000, li100000000, li1000000000, nI_add, pk_mul, nI_leI, nI_ltI, nI_eq, nI_clamp, sm_sub, vp_in_T, bI_eq0, bI_eq1, true_and, and_true, true_implies, false_implies, not_true_eq_false, not_false_eq_true, Nat.add_zero, Nat.zero_add, Nat.zero_mul, Nat.mul_zero, get_e]
  rw [(hR p hp).2.1]
  cases dHd d p
  · simp [bI, li1, nI_eq]
  · simp [bI, li1, nI_eq]
theorem beginsPage_e (hO : OkB d) (hR : CRows d rows) (hp : p < dP d) : wpX0_beginsPage rows (nI p) Post = Post (bI (dB d p)) := by
  have h16 := hO.p16
  unfold wpX0_beginsPage
  simp (disch := omega) only [li0, li1, li2, li3, li4, li5, li6, li7, li8, li9, li10, li11, li12, li13, li16, li20, li24, li30, li32, li34, li40, li41, li48, li57, li59, li60, li97, li122, li255, li555, li700, li999, li100000, li100000000, li1000000000, nI_add, pk_mul, nI_leI, nI_ltI, nI_eq, nI_clamp, sm_sub, vp_in_T, bI_eq0, bI_eq1, true_and, and_true, true_implies, false_implies, not_true_eq_false, not_false_eq_true, Nat.add_zero, Nat.zero_add, Nat.zero_mul, Nat.mul_zero, get_e]
  rw [(hR p hp).2.2.1]
  cases dB d p
  · simp [bI, li1, nI_eq]
  · simp [bI, li1, nI_eq]
theorem wordAt_e (hO : OkB d) (hR : CRows d rows) (hp : p < dP d) (hk : k < dN d p) : wpX0_wordAt rows (nI p) (nI k) Post = Post (nI (dV d p k)) := by
  have h16 := hO.p16
  have h30 := hO.n30 hp
  unfold wpX0_wordAt
  simp (disch := omega) only [li0, li1, li2, li3, li4, li5, li6, li7, li8, li9, li10, li11, li12, li13, li16, li20, li24, li30, li32, li34, li40, li41, li48, li57, li59, li60, li97, li122, li255, li555, li700, li999, li100000, li100000000, li1000000000, nI_add, pk_mul, nI_leI, nI_ltI, nI_eq, nI_clamp, sm_sub, vp_in_T, bI_eq0, bI_eq1, true_and, and_true, true_implies, false_implies, not_true_eq_false, not_false_eq_true, Nat.add_zero, Nat.zero_add, Nat.zero_mul, Nat.mul_zero, get_e]
  rw [(hR p hp).2.2.2.2 k hk]
theorem costOf_e (hC : CCosts d costs) (hk : k < 6) : wpX0_costOf costs (nI k) Post = Post (nI (dC d k)) := by
  unfold wpX0_costOf
  simp (disch := omega) only [get_e]
  rw [hC k hk]
theorem longestWord_e (hO : OkB d) : wpX0_longestWord (nI (dW d)) (nI (dS d)) Post = Post (nI (dW d - dS d)) := by
  have h1 := hO.w10
  have h2 := hO.s9
  unfold wpX0_longestWord
  simp (disch := omega) only [li0, li1, li2, li3, li4, li5, li6, li7, li8, li9, li10, li11, li12, li13, li16, li20, li24, li30, li32, li34, li40, li41, li48, li57, li59, li60, li97, li122, li255, li555, li700, li999, li100000, li100000000, li1000000000, nI_add, pk_mul, nI_leI, nI_ltI, nI_eq, nI_clamp, sm_sub, vp_in_T, bI_eq0, bI_eq1, true_and, and_true, true_implies, false_implies, not_true_eq_false, not_false_eq_true, Nat.add_zero, Nat.zero_add, Nat.zero_mul, Nat.mul_zero]
theorem lineHolds_e (hO : OkB d) (hs : s < 3) : wpX0_lineHolds (nI (dW d)) (nI (dS d)) (nI s) Post = Post (nI (hol d s)) := by
  have h1 := hO.w10
  have h2 := hO.s9
  unfold wpX0_lineHolds hol
  simp (disch := omega) only [li0, li1, li2, li3, li4, li5, li6, li7, li8, li9, li10, li11, li12, li13, li16, li20, li24, li30, li32, li34, li40, li41, li48, li57, li59, li60, li97, li122, li255, li555, li700, li999, li100000, li100000000, li1000000000, nI_add, pk_mul, nI_leI, nI_ltI, nI_eq, nI_clamp, sm_sub, vp_in_T, bI_eq0, bI_eq1, true_and, and_true, true_implies, false_implies, not_true_eq_false, not_false_eq_true, Nat.add_zero, Nat.zero_add, Nat.zero_mul, Nat.mul_zero]
  by_cases e1 : s = 1
  · simp only [e1, if_true, not_true_eq_false, false_implies, true_implies, true_and]
  · by_cases e2 : s = 2
    · simp only [e2, if_true, not_true_eq_false, false_implies, true_implies, true_and, and_true, not_false_eq_true, if_false, show ¬ (2 = 1) by decide]
    · simp only [e1, e2, if_false, not_true_eq_false, false_implies, true_implies, true_and, and_true, not_false_eq_true]
theorem mustEnd_e (hO : OkB d) (hn : n < 1000) {st : Bool} : wpX0_mustEnd (nI (dH d)) (nI n) (bI st) Post = Post (bI (must d st n)) := by
  have h40 := hO.h40
  unfold wpX0_mustEnd wpX0_mustEnd_b16 must
  simp (disch := omega) only [li0, li1, li2, li3, li4, li5, li6, li7, li8, li9, li10, li11, li12, li13, li16, li20, li24, li30, li32, li34, li40, li41, li48, li57, li59, li60, li97, li122, li255, li555, li700, li999, li100000, li100000000, li1000000000, nI_add, pk_mul, nI_leI, nI_ltI, nI_eq, nI_clamp, sm_sub, vp_in_T, bI_eq0, bI_eq1, true_and, and_true, true_implies, false_implies, not_true_eq_false, not_false_eq_true, Nat.add_zero, Nat.zero_add, Nat.zero_mul, Nat.mul_zero]
  by_cases e1 : n ≤ 0
  · simp only [e1, if_true, not_true_eq_false, false_implies, true_implies, and_true, bI_f]
  · by_cases e2 : n < dH d
    · cases st <;> simp only [e1, e2, if_true, if_false, not_true_eq_false, not_false_eq_true, false_implies, true_implies, and_true, true_and, bI_f, bI_t, reduceCtorEq]
    · cases st <;> simp only [e1, e2, if_true, if_false, not_true_eq_false, not_false_eq_true, false_implies, true_implies, and_true, true_and, bI_f, bI_t, reduceCtorEq]
theorem canEnd_e (hO : OkB d) (hn : n ≤ dH d) : wpX0_canEnd (nI (dH d)) (nI (dL d)) (nI n) Post = Post (bI (canE d n)) := by
  have h40 := hO.h40
  have h9 := hO.l9
  unfold wpX0_canEnd canE
  simp (disch := omega) only [li0, li1, li2, li3, li4, li5, li6, li7, li8, li9, li10, li11, li12, li13, li16, li20, li24, li30, li32, li34, li40, li41, li48, li57, li59, li60, li97, li122, li255, li555, li700, li999, li100000, li100000000, li1000000000, nI_add, pk_mul, nI_leI, nI_ltI, nI_eq, nI_clamp, sm_sub, vp_in_T, bI_eq0, bI_eq1, true_and, and_true, true_implies, false_implies, not_true_eq_false, not_false_eq_true, Nat.add_zero, Nat.zero_add, Nat.zero_mul, Nat.mul_zero]
  by_cases e1 : n ≤ 0
  · simp only [e1, if_true, not_true_eq_false, false_implies, true_implies, and_true, bI_f]
  · by_cases e2 : dL d < dH d - n
    · simp only [e1, e2, if_true, if_false, not_true_eq_false, not_false_eq_true, false_implies, true_implies, and_true, true_and, bI_f, bI_t]
    · simp only [e1, e2, if_true, if_false, not_true_eq_false, not_false_eq_true, false_implies, true_implies, and_true, true_and, bI_f, bI_t]
theorem endCost_e (hO : OkB d) (hC : CCosts d costs) (hn : n ≤ dH d) {st : Bool} : wpX0_endCost (nI (dH d)) costs (nI n) (bI st) Post = Post (nI (eC d st n)) := by
  have h40 := hO.h40
  unfold wpX0_endCost eC
  simp (disch := omega) only [li0, li1, li2, li3, li4, li5, li6, li7, li8, li9, li10, li11, li12, li13, li16, li20, li24, li30, li32, li34, li40, li41, li48, li57, li59, li60, li97, li122, li255, li555, li700, li999, li100000, li100000000, li1000000000, nI_add, pk_mul, nI_leI, nI_ltI, nI_eq, nI_clamp, sm_sub, vp_in_T, bI_eq0, bI_eq1, true_and, and_true, true_implies, false_implies, not_true_eq_false, not_false_eq_true, Nat.add_zero, Nat.zero_add, Nat.zero_mul, Nat.mul_zero, get_e, hC 2 (by decide)]
  cases st <;> simp only [if_true, if_false, not_true_eq_false, not_false_eq_true, false_implies, true_implies, and_true, true_and, reduceCtorEq]
theorem isWidow_e (hl : line < 1000) (hc : c < 1000) : wpX2_isWidow (nI line) (nI c) Post = Post (bI (isWd line c)) := by
  unfold wpX2_isWidow isWd
  by_cases e1 : c < 2
  · simp (disch := omega) only [li0, li1, li2, li3, li4, li5, li6, li7, li8, li9, li10, li11, li12, li13, li16, li20, li24, li30, li32, li34, li40, li41, li48, li57, li59, li60, li97, li122, li255, li555, li700, li999, li100000, li100000000, li1000000000, nI_add, pk_mul, nI_leI, nI_ltI, nI_eq, nI_clamp, sm_sub, vp_in_T, bI_eq0, bI_eq1, true_and, and_true, true_implies, false_implies, not_true_eq_false, not_false_eq_true, Nat.add_zero, Nat.zero_add, Nat.zero_mul, Nat.mul_zero, e1, if_true, bI_f]
  · by_cases e2 : line = c - 1
    · simp (disch := omega) only [li0, li1, li2, li3, li4, li5, li6, li7, li8, li9, li10, li11, li12, li13, li16, li20, li24, li30, li32, li34, li40, li41, li48, li57, li59, li60, li97, li122, li255, li555, li700, li999, li100000, li100000000, li1000000000, nI_add, pk_mul, nI_leI, nI_ltI, nI_eq, nI_clamp, sm_sub, vp_in_T, bI_eq0, bI_eq1, true_and, and_true, true_implies, false_implies, not_true_eq_false, not_false_eq_true, Nat.add_zero, Nat.zero_add, Nat.zero_mul, Nat.mul_zero, e1, e2, if_true, if_false, bI_f, bI_t]
    · simp (disch := omega) only [li0, li1, li2, li3, li4, li5, li6, li7, li8, li9, li10, li11, li12, li13, li16, li20, li24, li30, li32, li34, li40, li41, li48, li57, li59, li60, li97, li122, li255, li555, li700, li999, li100000, li100000000, li1000000000, nI_add, pk_mul, nI_leI, nI_ltI, nI_eq, nI_clamp, sm_sub, vp_in_T, bI_eq0, bI_eq1, true_and, and_true, true_implies, false_implies, not_true_eq_false, not_false_eq_true, Nat.add_zero, Nat.zero_add, Nat.zero_mul, Nat.mul_zero, e1, e2, if_true, if_false, bI_f, bI_t]
theorem isOrphan_e (hl : line < 1000) (hc : c < 1000) : wpX2_isOrphan (nI line) (nI c) Post = Post (bI (isOr line c)) := by
  unfold wpX2_isOrphan isOr
  by_cases e1 : c < 2
  · simp (disch := omega) only [li0, li1, li2, li3, li4, li5, li6, li7, li8, li9, li10, li11, li12, li13, li16, li20, li24, li30, li32, li34, li40, li41, li48, li57, li59, li60, li97, li122, li255, li555, li700, li999, li100000, li100000000, li1000000000, nI_add, pk_mul, nI_leI, nI_ltI, nI_eq, nI_clamp, sm_sub, vp_in_T, bI_eq0, bI_eq1, true_and, and_true, true_implies, false_implies, not_true_eq_false, not_false_eq_true, Nat.add_zero, Nat.zero_add, Nat.zero_mul, Nat.mul_zero, e1, if_true, bI_f]
  · by_cases e2 : line = 1
    · simp (disch := omega) only [li0, li1, li2, li3, li4, li5, li6, li7, li8, li9, li10, li11, li12, li13, li16, li20, li24, li30, li32, li34, li40, li41, li48, li57, li59, li60, li97, li122, li255, li555, li700, li999, li100000, li100000000, li1000000000, nI_add, pk_mul, nI_leI, nI_ltI, nI_eq, nI_clamp, sm_sub, vp_in_T, bI_eq0, bI_eq1, true_and, and_true, true_implies, false_implies, not_true_eq_false, not_false_eq_true, Nat.add_zero, Nat.zero_add, Nat.zero_mul, Nat.mul_zero, e1, e2, if_true, if_false, bI_f, bI_t]
    · simp (disch := omega) only [li0, li1, li2, li3, li4, li5, li6, li7, li8, li9, li10, li11, li12, li13, li16, li20, li24, li30, li32, li34, li40, li41, li48, li57, li59, li60, li97, li122, li255, li555, li700, li999, li100000, li100000000, li1000000000, nI_add, pk_mul, nI_leI, nI_ltI, nI_eq, nI_clamp, sm_sub, vp_in_T, bI_eq0, bI_eq1, true_and, and_true, true_implies, false_implies, not_true_eq_false, not_false_eq_true, Nat.add_zero, Nat.zero_add, Nat.zero_mul, Nat.mul_zero, e1, e2, if_true, if_false, bI_f, bI_t]
theorem beginCost_e (hC : CCosts d costs) (hl : line < 1000) (hc : c < 1000) {hg : Bool} : wpX0_beginCost costs (nI line) (nI c) (bI hg) Post = Post (nI ((if isWd line c then dC d 3 else 0) + (if isOr line c then dC d 4 else 0) + (if hg then dC d 5 else 0))) := by
  unfold wpX0_beginCost wpX0_beginCost_b20 wpX0_beginCost_b44 wpX0_beginCost_b65
  simp (disch := omega) only [isWidow_e, isOrphan_e, li0, li1, li2, li3, li4, li5, li6, li7, li8, li9, li10, li11, li12, li13, li16, li20, li24, li30, li32, li34, li40, li41, li48, li57, li59, li60, li97, li122, li255, li555, li700, li999, li100000, li100000000, li1000000000, nI_add, pk_mul, nI_leI, nI_ltI, nI_eq, nI_clamp, sm_sub, vp_in_T, bI_eq0, bI_eq1, true_and, and_true, true_implies, false_implies, not_true_eq_false, not_false_eq_true, Nat.add_zero, Nat.zero_add, Nat.zero_mul, Nat.mul_zero, get_e, hC 3 (by decide), hC 4 (by decide), hC 5 (by decide)]
  cases isWd line c <;> cases isOr line c <;> cases hg <;> simp only [if_true, if_false, not_true_eq_false, not_false_eq_true, false_implies, true_implies, and_true, true_and, reduceCtorEq, Nat.add_zero, Nat.zero_add]
theorem settingCost_e (hC : CCosts d costs) (hs : s < 3) : wpX0_settingCost costs (nI s) (nI c) Post = Post (nI (sC d s c)) := by
  unfold wpX0_settingCost sC
  by_cases e : s = 0
  · simp (disch := omega) only [li0, li1, li2, li3, li4, li5, li6, li7, li8, li9, li10, li11, li12, li13, li16, li20, li24, li30, li32, li34, li40, li41, li48, li57, li59, li60, li97, li122, li255, li555, li700, li999, li100000, li100000000, li1000000000, nI_add, pk_mul, nI_leI, nI_ltI, nI_eq, nI_clamp, sm_sub, vp_in_T, bI_eq0, bI_eq1, true_and, and_true, true_implies, false_implies, not_true_eq_false, not_false_eq_true, Nat.add_zero, Nat.zero_add, Nat.zero_mul, Nat.mul_zero, e, if_true]
  · simp (disch := omega) only [li0, li1, li2, li3, li4, li5, li6, li7, li8, li9, li10, li11, li12, li13, li16, li20, li24, li30, li32, li34, li40, li41, li48, li57, li59, li60, li97, li122, li255, li555, li700, li999, li100000, li100000000, li1000000000, nI_add, pk_mul, nI_leI, nI_ltI, nI_eq, nI_clamp, sm_sub, vp_in_T, bI_eq0, bI_eq1, true_and, and_true, true_implies, false_implies, not_true_eq_false, not_false_eq_true, Nat.add_zero, Nat.zero_add, Nat.zero_mul, Nat.mul_zero, e, if_false, costOf_e hC (show s - 1 < 6 by omega)]
end CBK
