/-! THE REFERENCE: its small methods, said of its own row d -/
theorem nI_neg {a b : Nat} (h : b ≤ a) : nI a + -nI b = nI (a - b) := by rw [← Int32.sub_eq_add_neg]; exact sm_sub h
theorem in_s {x lo hi : Int32} {Post : Int32 → Prop} (hT : ¬ x < lo → ¬ hi < x → Post 1) (hF : x < lo ∨ hi < x → Post 0) : wpX7_in x lo hi Post := by
  unfold wpX7_in
  exact ⟨fun z => hF (Or.inl z), fun z => ⟨fun y => hF (Or.inr y), fun y => hT z y⟩⟩
theorem in_e {a lo hi : Nat} {Post : Int32 → Prop} (ha : a < 2 ^ 31) (hl : lo < 2 ^ 31) (hh : hi < 2 ^ 31) : wpX7_in (nI a) (nI lo) (nI hi) Post = Post (bI (decide (lo ≤ a ∧ a ≤ hi))) := by
  unfold wpX7_in
  rw [nI_ltI ha hl, nI_ltI hh ha]
  by_cases c : lo ≤ a ∧ a ≤ hi
  · rw [decide_eq_true c]
    simp only [show ¬ a < lo by omega, show ¬ hi < a by omega, false_implies, true_and, not_false_eq_true, true_implies]
    rfl
  · rw [decide_eq_false c]
    by_cases g : a < lo
    · simp only [g, true_implies, not_true_eq_false, false_implies, and_true]
      rfl
    · simp only [g, show hi < a by omega, true_implies, not_true_eq_false, not_false_eq_true, false_implies, and_true, true_and]
      rfl
/-- an index of n things, as '0 <= x <= n - 1' -/
theorem inN_s {x : Int32} {n : Nat} {Post : Int32 → Prop} (hn : n < 2 ^ 31) (hT : ∀ i, i < n → x = nI i → Post 1) (hF : ¬ inR x n → Post 0) : wpX7_in x 0 (nI n - 1) Post := by
  have hm : nI n - 1 = if n = 0 then (-1 : Int32) else nI (n - 1) := by
    by_cases g : n = 0
    · rw [if_pos g, g]; decide
    · rw [if_neg g, li1, sm_sub (by omega)]
  rw [hm]
  rcases inR_cases x n hn with ⟨i, hi, rfl⟩ | ⟨hh, hx⟩
  · refine in_s (fun _ _ => hT i hi rfl) (fun z => ?_)
    rw [if_neg (by omega)] at z
    rcases z with z | z
    · exact absurd z (nI_pos (by omega))
    · exact absurd z (nI_nlt (by omega) (by omega))
  · refine in_s (fun z1 z2 => ?_) (fun _ => hF hx)
    exfalso
    rcases hh with hh | ⟨i, hi, hi2, rfl⟩
    · exact z1 hh
    · by_cases g : n = 0
      · rw [if_pos g] at z2
        exact z2 (of_eq_true (m1_lt hi2))
      · rw [if_neg g] at z2
        exact z2 (nI_lt (by omega) hi2)
theorem min_e {a b : Nat} {Post : Int32 → Prop} (ha : a < 2 ^ 31) (hb : b < 2 ^ 31) : wpX7_min (nI a) (nI b) Post = Post (nI (min a b)) := by
  unfold wpX7_min
  rw [nI_leI hb ha]
  by_cases g : b ≤ a
  · simp only [g, true_implies, not_true_eq_false, false_implies, and_true, Nat.min_eq_right g]
  · simp only [g, true_implies, not_false_eq_true, false_implies, true_and, Nat.min_eq_left (show a ≤ b by omega)]
section MBS
variable {d : Nat → Int32} {p k n s c line : Nat} {Post : Int32 → Prop}
theorem d_at {x : Int32} {k : Nat} (hx : x = nI k) (hk : k < 2 ^ 31) : d x.toNatClampNeg = d k := by rw [hx, nI_clamp hk]
theorem of_e (hp : p < 16) (hk : k < 34) : wpX7_of d (nI p) (nI k) Post = Post (d (11 + 34 * p + k)) := by
  unfold wpX7_of wpX7_at
  simp (disch := omega) only [li0, li1, li2, li3, li4, li5, li6, li7, li8, li9, li10, li11, li12, li13, li16, li20, li24, li30, li32, li34, li40, li41, li48, li57, li59, li60, li97, li122, li255, li555, li700, li999, li100000, li100000000, li1000000000, nI_add, pk_mul, nI_leI, nI_ltI, nI_eq, nI_clamp, sm_sub, vp_in_T, bI_eq0, bI_eq1, true_and, and_true, true_implies, false_implies, not_true_eq_false, not_false_eq_true, Nat.add_zero, Nat.zero_add, Nat.zero_mul, Nat.mul_zero]
theorem holds_m (hO : OkB d) (hs : s < 3) : wpX7_holds d (nI s) Post = Post (nI (hol d s)) := by
  have h1 := hO.w10
  have h2 := hO.s9
  unfold wpX7_holds hol
  simp (disch := omega) only [li0, li1, li2, li3, li4, li5, li6, li7, li8, li9, li10, li11, li12, li13, li16, li20, li24, li30, li32, li34, li40, li41, li48, li57, li59, li60, li97, li122, li255, li555, li700, li999, li100000, li100000000, li1000000000, nI_add, pk_mul, nI_leI, nI_ltI, nI_eq, nI_clamp, sm_sub, vp_in_T, bI_eq0, bI_eq1, true_and, and_true, true_implies, false_implies, not_true_eq_false, not_false_eq_true, Nat.add_zero, Nat.zero_add, Nat.zero_mul, Nat.mul_zero, hO.w, hO.s, nI_neg]
  by_cases e1 : s = 1
  · simp only [e1, if_true, not_true_eq_false, not_false_eq_true, false_implies, true_implies, true_and, and_true, show ¬ (1 = 0) by decide]
  · by_cases e2 : s = 2
    · simp only [e2, if_true, not_true_eq_false, false_implies, true_implies, true_and, and_true, not_false_eq_true, if_false, show ¬ (2 = 1) by decide, show ¬ (2 = 0) by decide]
    · have e0 : s = 0 := by omega
      simp only [e0, if_false, not_true_eq_false, false_implies, true_implies, true_and, and_true, not_false_eq_true, show ¬ (0 = 1) by decide, show ¬ (0 = 2) by decide]
theorem begins_m (hO : OkB d) (hp : p < dP d) (hl : line < 1000) : wpX7_beginsPage d (nI p) (nI line) Post = Post (bI (sta d p line)) := by
  have h16 := hO.p16
  have e := hO.b hp
  unfold wpX7_beginsPage sta
  simp (disch := omega) only [li0, li1, li2, li3, li4, li5, li6, li7, li8, li9, li10, li11, li12, li13, li16, li20, li24, li30, li32, li34, li40, li41, li48, li57, li59, li60, li97, li122, li255, li555, li700, li999, li100000, li100000000, li1000000000, nI_add, pk_mul, nI_leI, nI_ltI, nI_eq, nI_clamp, sm_sub, vp_in_T, bI_eq0, bI_eq1, true_and, and_true, true_implies, false_implies, not_true_eq_false, not_false_eq_true, Nat.add_zero, Nat.zero_add, Nat.zero_mul, Nat.mul_zero, of_e, e]
  by_cases g : line = 0
  · cases dB d p <;> simp only [g, bI_f, bI_t, decide_true, Bool.and_true, Bool.and_false, not_true_eq_false, not_false_eq_true, false_implies, true_implies, true_and, and_true, reduceCtorEq]
  · simp only [g, bI_f, decide_false, Bool.false_and, not_false_eq_true, false_implies, true_implies, and_true]
theorem must_m (hO : OkB d) (hp : p < dP d) (hl : line < 1000) (hn : n ≤ dH d) : wpX7_mustEnd d (nI p) (nI line) (nI n) Post = Post (bI (must d (sta d p line) n)) := by
  have h40 := hO.h40
  unfold wpX7_mustEnd wpX7_mustEnd_b23 must
  rw [begins_m hO hp hl]
  simp (disch := omega) only [li0, li1, li2, li3, li4, li5, li6, li7, li8, li9, li10, li11, li12, li13, li16, li20, li24, li30, li32, li34, li40, li41, li48, li57, li59, li60, li97, li122, li255, li555, li700, li999, li100000, li100000000, li1000000000, nI_add, pk_mul, nI_leI, nI_ltI, nI_eq, nI_clamp, sm_sub, vp_in_T, bI_eq0, bI_eq1, true_and, and_true, true_implies, false_implies, not_true_eq_false, not_false_eq_true, Nat.add_zero, Nat.zero_add, Nat.zero_mul, Nat.mul_zero, hO.h]
  by_cases e1 : n ≤ 0
  · simp only [e1, if_true, not_true_eq_false, false_implies, true_implies, and_true, bI_f]
  · by_cases e2 : n < dH d
    · have e3 : ¬ n = dH d := by omega
      cases sta d p line <;> simp only [e1, e2, e3, if_true, if_false, not_true_eq_false, not_false_eq_true, false_implies, true_implies, and_true, true_and, bI_f, bI_t, reduceCtorEq]
    · have e3 : n = dH d := by omega
      have e4 : ¬ dH d ≤ 0 := by omega
      cases sta d p line <;> simp only [e4, e3, Nat.lt_irrefl, if_true, if_false, not_true_eq_false, not_false_eq_true, false_implies, true_implies, and_true, true_and, bI_f, bI_t, reduceCtorEq]
theorem can_m (hO : OkB d) (hn : n ≤ dH d) : wpX7_canEnd d (nI n) Post = Post (bI (canE d n)) := by
  have h40 := hO.h40
  have h9 := hO.l9
  unfold wpX7_canEnd canE
  simp (disch := omega) only [li0, li1, li2, li3, li4, li5, li6, li7, li8, li9, li10, li11, li12, li13, li16, li20, li24, li30, li32, li34, li40, li41, li48, li57, li59, li60, li97, li122, li255, li555, li700, li999, li100000, li100000000, li1000000000, nI_add, pk_mul, nI_leI, nI_ltI, nI_eq, nI_clamp, sm_sub, vp_in_T, bI_eq0, bI_eq1, true_and, and_true, true_implies, false_implies, not_true_eq_false, not_false_eq_true, Nat.add_zero, Nat.zero_add, Nat.zero_mul, Nat.mul_zero, hO.h, hO.l]
  by_cases e1 : n ≤ 0
  · simp only [e1, if_true, not_true_eq_false, false_implies, true_implies, and_true, bI_f]
  · by_cases e2 : dL d < dH d - n
    · simp only [e1, e2, if_true, if_false, not_true_eq_false, not_false_eq_true, false_implies, true_implies, and_true, true_and, bI_f, bI_t]
    · simp only [e1, e2, if_true, if_false, not_true_eq_false, not_false_eq_true, false_implies, true_implies, and_true, true_and, bI_f, bI_t]
theorem c_at (hO : OkB d) {i : Nat} (k : Nat) (hk : k < 6) (hi : i = 5 + k) : d i = nI (dC d k) := by subst hi; exact hO.c hk
theorem endCost_m (hO : OkB d) (hp : p < dP d) (hl : line < 1000) (hn : n ≤ dH d) : wpX7_endCost d (nI p) (nI line) (nI n) Post = Post (nI (eC d (sta d p line) n)) := by
  have h40 := hO.h40
  unfold wpX7_endCost eC
  rw [begins_m hO hp hl]
  simp (disch := omega) only [li0, li1, li2, li3, li4, li5, li6, li7, li8, li9, li10, li11, li12, li13, li16, li20, li24, li30, li32, li34, li40, li41, li48, li57, li59, li60, li97, li122, li255, li555, li700, li999, li100000, li100000000, li1000000000, nI_add, pk_mul, nI_leI, nI_ltI, nI_eq, nI_clamp, sm_sub, vp_in_T, bI_eq0, bI_eq1, true_and, and_true, true_implies, false_implies, not_true_eq_false, not_false_eq_true, Nat.add_zero, Nat.zero_add, Nat.zero_mul, Nat.mul_zero, hO.h, c_at hO (i := 7) 2 (by decide) rfl]
  cases sta d p line <;> simp only [if_true, if_false, not_true_eq_false, not_false_eq_true, false_implies, true_implies, and_true, true_and, reduceCtorEq]
theorem isWd_m (hl : line < 1000) (hc : c < 1000) : wpX7_isWidow (nI line) (nI c) Post = Post (bI (isWd line c)) := by
  unfold wpX7_isWidow isWd
  by_cases e1 : c < 2
  · have e1' : c ≤ 1 := by omega
    simp (disch := omega) only [li0, li1, li2, li3, li4, li5, li6, li7, li8, li9, li10, li11, li12, li13, li16, li20, li24, li30, li32, li34, li40, li41, li48, li57, li59, li60, li97, li122, li255, li555, li700, li999, li100000, li100000000, li1000000000, nI_add, pk_mul, nI_leI, nI_ltI, nI_eq, nI_clamp, sm_sub, vp_in_T, bI_eq0, bI_eq1, true_and, and_true, true_implies, false_implies, not_true_eq_false, not_false_eq_true, Nat.add_zero, Nat.zero_add, Nat.zero_mul, Nat.mul_zero, e1, e1', if_true, bI_f]
  · have e1' : ¬ c ≤ 1 := by omega
    by_cases e2 : line = c - 1
    · simp (disch := omega) only [li0, li1, li2, li3, li4, li5, li6, li7, li8, li9, li10, li11, li12, li13, li16, li20, li24, li30, li32, li34, li40, li41, li48, li57, li59, li60, li97, li122, li255, li555, li700, li999, li100000, li100000000, li1000000000, nI_add, pk_mul, nI_leI, nI_ltI, nI_eq, nI_clamp, sm_sub, vp_in_T, bI_eq0, bI_eq1, true_and, and_true, true_implies, false_implies, not_true_eq_false, not_false_eq_true, Nat.add_zero, Nat.zero_add, Nat.zero_mul, Nat.mul_zero, e1, e1', e2, if_true, if_false, bI_f, bI_t]
    · simp (disch := omega) only [li0, li1, li2, li3, li4, li5, li6, li7, li8, li9, li10, li11, li12, li13, li16, li20, li24, li30, li32, li34, li40, li41, li48, li57, li59, li60, li97, li122, li255, li555, li700, li999, li100000, li100000000, li1000000000, nI_add, pk_mul, nI_leI, nI_ltI, nI_eq, nI_clamp, sm_sub, vp_in_T, bI_eq0, bI_eq1, true_and, and_true, true_implies, false_implies, not_true_eq_false, not_false_eq_true, Nat.add_zero, Nat.zero_add, Nat.zero_mul, Nat.mul_zero, e1, e1', e2, if_true, if_false, bI_f, bI_t]
theorem isHg_m (hO : OkB d) (hp : p < dP d) (hl : line < 1000) : wpX7_isHeaded d (nI p) (nI line) Post = Post (bI (isHg d p line)) := by
  have h16 := hO.p16
  unfold wpX7_isHeaded isHg
  by_cases g : line = 0
  · by_cases g2 : p ≤ 0
    · have g3 : ¬ 0 < p := by omega
      simp (disch := omega) only [li0, li1, li2, li3, li4, li5, li6, li7, li8, li9, li10, li11, li12, li13, li16, li20, li24, li30, li32, li34, li40, li41, li48, li57, li59, li60, li97, li122, li255, li555, li700, li999, li100000, li100000000, li1000000000, nI_add, pk_mul, nI_leI, nI_ltI, nI_eq, nI_clamp, sm_sub, vp_in_T, bI_eq0, bI_eq1, true_and, and_true, true_implies, false_implies, not_true_eq_false, not_false_eq_true, Nat.add_zero, Nat.zero_add, Nat.zero_mul, Nat.mul_zero, g, g2, g3, decide_true, decide_false, Bool.false_and, Bool.and_false, bI_f]
    · have g3 : 0 < p := by omega
      have e := hO.hd (show p - 1 < dP d by omega)
      simp (disch := omega) only [li0, li1, li2, li3, li4, li5, li6, li7, li8, li9, li10, li11, li12, li13, li16, li20, li24, li30, li32, li34, li40, li41, li48, li57, li59, li60, li97, li122, li255, li555, li700, li999, li100000, li100000000, li1000000000, nI_add, pk_mul, nI_leI, nI_ltI, nI_eq, nI_clamp, sm_sub, vp_in_T, bI_eq0, bI_eq1, true_and, and_true, true_implies, false_implies, not_true_eq_false, not_false_eq_true, Nat.add_zero, Nat.zero_add, Nat.zero_mul, Nat.mul_zero, of_e, e, g, g2, g3, decide_true, Bool.true_and]
      cases dHd d (p - 1) <;> simp only [bI_f, bI_t, not_true_eq_false, not_false_eq_true, false_implies, true_implies, true_and, and_true, reduceCtorEq]
  · simp (disch := omega) only [li0, li1, li2, li3, li4, li5, li6, li7, li8, li9, li10, li11, li12, li13, li16, li20, li24, li30, li32, li34, li40, li41, li48, li57, li59, li60, li97, li122, li255, li555, li700, li999, li100000, li100000000, li1000000000, nI_add, pk_mul, nI_leI, nI_ltI, nI_eq, nI_clamp, sm_sub, vp_in_T, bI_eq0, bI_eq1, true_and, and_true, true_implies, false_implies, not_true_eq_false, not_false_eq_true, Nat.add_zero, Nat.zero_add, Nat.zero_mul, Nat.mul_zero, g, bI_f, decide_false, Bool.false_and]
theorem beginCost_m (hO : OkB d) (hp : p < dP d) (hl : line < c) (hc : c < 1000) : wpX7_beginCost d (nI p) (nI line) (nI c) Post = Post (nI (bC d p line c)) := by
  unfold wpX7_beginCost wpX7_beginCost_b19 wpX7_beginCost_b35 bC
  have h16 := hO.p16
  have ho : isOr line c = decide (line = 1) := by
    unfold isOr
    by_cases g : line = 1
    · rw [if_neg (by omega), if_pos g, decide_eq_true g]
    · rw [decide_eq_false g, if_neg g]
      split <;> rfl
  rw [ho]
  simp (disch := omega) only [isWd_m, isHg_m hO hp, li0, li1, li2, li3, li4, li5, li6, li7, li8, li9, li10, li11, li12, li13, li16, li20, li24, li30, li32, li34, li40, li41, li48, li57, li59, li60, li97, li122, li255, li555, li700, li999, li100000, li100000000, li1000000000, nI_add, pk_mul, nI_leI, nI_ltI, nI_eq, nI_clamp, sm_sub, vp_in_T, bI_eq0, bI_eq1, true_and, and_true, true_implies, false_implies, not_true_eq_false, not_false_eq_true, Nat.add_zero, Nat.zero_add, Nat.zero_mul, Nat.mul_zero, c_at hO (i := 8) 3 (by decide) rfl, c_at hO (i := 9) 4 (by decide) rfl, c_at hO (i := 10) 5 (by decide) rfl]
  by_cases g : line = 1
  · cases isWd line c <;> cases isHg d p line <;> simp only [g, decide_true, if_true, if_false, not_true_eq_false, not_false_eq_true, false_implies, true_implies, and_true, true_and, reduceCtorEq, Nat.add_zero, Nat.zero_add]
  · cases isWd line c <;> cases isHg d p line <;> simp only [g, decide_false, if_true, if_false, not_true_eq_false, not_false_eq_true, false_implies, true_implies, and_true, true_and, reduceCtorEq, Nat.add_zero, Nat.zero_add]
/-- the reference's table of lines is laid -/
def MLn (d : Nat → Int32) (lines : Nat → Nat → Int32) : Prop := ∀ p, p < dP d → ∀ s, s < 3 → lines p s = nI (cnt d p s)
theorem settingCost_m {lines : Nat → Nat → Int32} (hO : OkB d) (hM : MLn d lines) (hp : p < dP d) (hs : s < 3) : wpX7_settingCost d lines (nI p) (nI s) Post = Post (nI (sC d s (cnt d p s))) := by
  have h16 := hO.p16
  unfold wpX7_settingCost wpX7_settingCost_b31 sC
  simp (disch := omega) only [li0, li1, li2, li3, li4, li5, li6, li7, li8, li9, li10, li11, li12, li13, li16, li20, li24, li30, li32, li34, li40, li41, li48, li57, li59, li60, li97, li122, li255, li555, li700, li999, li100000, li100000000, li1000000000, nI_add, pk_mul, nI_leI, nI_ltI, nI_eq, nI_clamp, sm_sub, vp_in_T, bI_eq0, bI_eq1, true_and, and_true, true_implies, false_implies, not_true_eq_false, not_false_eq_true, Nat.add_zero, Nat.zero_add, Nat.zero_mul, Nat.mul_zero, hM p hp s hs]
  by_cases e : s = 0
  · simp only [e, if_true, not_true_eq_false, false_implies, true_implies, true_and]
  · by_cases e1 : s = 1
    · simp (disch := omega) only [li0, li1, li2, li3, li4, li5, li6, li7, li8, li9, li10, li11, li12, li13, li16, li20, li24, li30, li32, li34, li40, li41, li48, li57, li59, li60, li97, li122, li255, li555, li700, li999, li100000, li100000000, li1000000000, nI_add, pk_mul, nI_leI, nI_ltI, nI_eq, nI_clamp, sm_sub, vp_in_T, bI_eq0, bI_eq1, true_and, and_true, true_implies, false_implies, not_true_eq_false, not_false_eq_true, Nat.add_zero, Nat.zero_add, Nat.zero_mul, Nat.mul_zero, e, e1, if_false, c_at hO (i := 5 + 0) 0 (by decide) rfl, show ¬ (1 = 0) by decide]
    · have e2 : s = 2 := by omega
      simp (disch := omega) only [li0, li1, li2, li3, li4, li5, li6, li7, li8, li9, li10, li11, li12, li13, li16, li20, li24, li30, li32, li34, li40, li41, li48, li57, li59, li60, li97, li122, li255, li555, li700, li999, li100000, li100000000, li1000000000, nI_add, pk_mul, nI_leI, nI_ltI, nI_eq, nI_clamp, sm_sub, vp_in_T, bI_eq0, bI_eq1, true_and, and_true, true_implies, false_implies, not_true_eq_false, not_false_eq_true, Nat.add_zero, Nat.zero_add, Nat.zero_mul, Nat.mul_zero, e, e2, if_false, c_at hO (i := 5 + 1) 1 (by decide) rfl, show ¬ (2 = 0) by decide, show ¬ (2 = 1) by decide]
/-- a setting that the paragraph may have -/
def alw (d : Nat → Int32) (p s : Nat) : Bool := decide (dF d p = -1) || decide (dF d p = nI s)
theorem allowed_m (hO : OkB d) (hp : p < dP d) (hs : s < 3) : wpX7_isAllowed d (nI p) (nI s) Post = Post (bI (alw d p s)) := by
  have h16 := hO.p16
  unfold wpX7_isAllowed wpX7_isAllowed_b20 alw
  rw [li2, of_e (by omega) (by decide)]
  have e : d (11 + 34 * p + 2) = dF d p := rfl
  rw [e]
  by_cases g : dF d p = -1
  · simp only [g, true_implies, not_true_eq_false, false_implies, and_true, decide_true, Bool.true_or, bI_t]
    rfl
  · rw [of_e (by omega) (by decide), e]
    by_cases g2 : dF d p = nI s
    · have g3 : ¬ (nI s = (-1 : Int32)) := fun z => g (g2.trans z)
      simp only [g2, g3, true_implies, not_true_eq_false, false_implies, true_and, not_false_eq_true, decide_true, Bool.or_true, bI_t]
      rfl
    · simp only [g, g2, true_implies, false_implies, true_and, and_true, not_false_eq_true, decide_false, Bool.or_false, bI_f]
      rfl
end MBS
