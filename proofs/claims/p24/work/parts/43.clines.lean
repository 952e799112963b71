/-! THE CLASS'S LINES -/
def tln (d : Nat → Int32) (p s j : Nat) : Nat := tkn d p s (dN d p) j
def CLt (d : Nat → Int32) (counts taken : Nat → Int32) (p s : Nat) : Prop := counts (p * 3 + s) = nI (cnt d p s) ∧ ∀ j, j < cnt d p s → taken ((p * 3 + s) * 30 + j) = nI (tln d p s j)
def CL (d : Nat → Int32) (counts taken : Nat → Int32) : Prop := ∀ p, p < dP d → ∀ s, s < 3 → CLt d counts taken p s
section CLN
variable {d : Nat → Int32} {counts taken rows : Nat → Int32} {p k n s c line : Nat}
theorem countOf_e {Post : Int32 → Prop} (hO : OkB d) (hL : CL d counts taken) (hp : p < dP d) (hs : s < 3) : wpX2_countOf counts (nI p) (nI s) Post = Post (nI (cnt d p s)) := by
  have h16 := hO.p16
  unfold wpX2_countOf
  simp (disch := omega) only [li0, li1, li2, li3, li4, li5, li6, li7, li8, li9, li10, li11, li12, li13, li16, li20, li24, li30, li32, li34, li40, li41, li48, li57, li59, li60, li97, li122, li255, li555, li700, li999, li100000, li100000000, li1000000000, nI_add, pk_mul, nI_leI, nI_ltI, nI_eq, nI_clamp, sm_sub, vp_in_T, bI_eq0, bI_eq1, true_and, and_true, true_implies, false_implies, not_true_eq_false, not_false_eq_true, Nat.add_zero, Nat.zero_add, Nat.zero_mul, Nat.mul_zero, get_e]
  rw [(hL p hp s hs).1]
theorem takenBy_e {Post : Int32 → Prop} (hO : OkB d) (hL : CL d counts taken) (hp : p < dP d) (hs : s < 3) (hk : k < cnt d p s) : wpX2_takenBy taken (nI p) (nI s) (nI k) Post = Post (nI (tln d p s k)) := by
  have h16 := hO.p16
  have h30 := cnt_le hO hp s
  unfold wpX2_takenBy
  simp (disch := omega) only [li0, li1, li2, li3, li4, li5, li6, li7, li8, li9, li10, li11, li12, li13, li16, li20, li24, li30, li32, li34, li40, li41, li48, li57, li59, li60, li97, li122, li255, li555, li700, li999, li100000, li100000000, li1000000000, nI_add, pk_mul, nI_leI, nI_ltI, nI_eq, nI_clamp, sm_sub, vp_in_T, bI_eq0, bI_eq1, true_and, and_true, true_implies, false_implies, not_true_eq_false, not_false_eq_true, Nat.add_zero, Nat.zero_add, Nat.zero_mul, Nat.mul_zero, get_e]
  rw [(hL p hp s hs).2 k hk]
theorem breakUp_L {Post : (Nat → Int32) → (Nat → Int32) → Prop} {W S : Int32} (hO : OkB d) (hR : CRows d rows) (hp : p < dP d) (hs : s < 3) (counts : Nat → Int32) : ∀ (r k : Nat) (taken : Nat → Int32), k + r = dN d p → (∀ j, j < (brk d p s k).1 → taken ((p * 3 + s) * 30 + j) = nI (tkn d p s k j)) →
    (∀ t', (∀ j, j < cnt d p s → t' ((p * 3 + s) * 30 + j) = nI (tln d p s j)) → (∀ i, (i < (p * 3 + s) * 30 ∨ (p * 3 + s) * 30 + 30 ≤ i) → t' i = taken i) → Post (upd counts (p * 3 + s) (nI (cnt d p s))) t') →
    wpX2_breakUp_L30 W S rows (nI p) (nI s) Post (r + 1) counts taken (nI (p * 3 + s)) (nI (hol d s)) (nI (dN d p)) (nI (brk d p s k).1) (nI (brk d p s k).2) (nI k)
  | 0, k, taken, hk, ht, h => by
    have h16 := hO.p16
    have h30 := hO.n30 hp
    have e : k = dN d p := by omega
    subst e
    unfold wpX2_breakUp_L30
    have hc : (brk d p s (dN d p)).1 = cnt d p s := rfl
    simp (disch := omega) only [li0, li1, li2, li3, li4, li5, li6, li7, li8, li9, li10, li11, li12, li13, li16, li20, li24, li30, li32, li34, li40, li41, li48, li57, li59, li60, li97, li122, li255, li555, li700, li999, li100000, li100000000, li1000000000, nI_add, pk_mul, nI_leI, nI_ltI, nI_eq, nI_clamp, sm_sub, vp_in_T, bI_eq0, bI_eq1, true_and, and_true, true_implies, false_implies, not_true_eq_false, not_false_eq_true, Nat.add_zero, Nat.zero_add, Nat.zero_mul, Nat.mul_zero, put_e, Nat.le_refl, hc]
    exact h taken ht (fun _ _ => rfl)
  | r + 1, k, taken, hk, ht, h => by
    have h16 := hO.p16
    have h30 := hO.n30 hp
    have h1 : k < dN d p := by omega
    have h2 : ¬ dN d p ≤ k := by omega
    have h3 := brk_le d p s k
    have h4 := brk_used hO hp s k (by omega)
    have h5 := hO.v60 hp h1
    have h6 : hol d s ≤ 69 := by
      have := hO.w60
      have := hO.s9
      unfold hol
      split <;> (try split) <;> omega
    unfold wpX2_breakUp_L30 wpX2_breakUp_b75 wpX2_breakUp_b82
    simp (disch := omega) only [li0, li1, li2, li3, li4, li5, li6, li7, li8, li9, li10, li11, li12, li13, li16, li20, li24, li30, li32, li34, li40, li41, li48, li57, li59, li60, li97, li122, li255, li555, li700, li999, li100000, li100000000, li1000000000, nI_add, pk_mul, nI_leI, nI_ltI, nI_eq, nI_clamp, sm_sub, vp_in_T, bI_eq0, bI_eq1, true_and, and_true, true_implies, false_implies, not_true_eq_false, not_false_eq_true, Nat.add_zero, Nat.zero_add, Nat.zero_mul, Nat.mul_zero, wordAt_e hO hR hp h1, h2]
    have key : ∀ (c u : Nat), brk d p s (k + 1) = (c, u) → 1 ≤ c → (c = (brk d p s k).1 ∨ c = (brk d p s k).1 + 1) → wpX6_put 1440 taken (nI ((p * 3 + s) * 30 + c - 1)) (nI u) fun taken_5 => wpX2_breakUp_L30 W S rows (nI p) (nI s) Post (r + 1) counts taken_5 (nI (p * 3 + s)) (nI (hol d s)) (nI (dN d p)) (nI c) (nI u) (nI (k + 1)) := by
      intro c u hb hc1 hc2
      have hc3 : c ≤ k + 1 := by have := brk_le d p s (k + 1); rw [hb] at this; exact this
      simp (disch := omega) only [put_e]
      have e1 : (brk d p s (k + 1)).1 = c := by rw [hb]
      have e2 : (brk d p s (k + 1)).2 = u := by rw [hb]
      rw [← e1, ← e2]
      refine breakUp_L hO hR hp hs counts r (k + 1) _ (by omega) ?_ ?_
      · intro j hj
        rw [e1] at hj
        show upd taken ((p * 3 + s) * 30 + (brk d p s (k + 1)).1 - 1) (nI (brk d p s (k + 1)).2) ((p * 3 + s) * 30 + j) = nI (if j + 1 = (brk d p s (k + 1)).1 then (brk d p s (k + 1)).2 else tkn d p s k j)
        rw [e1, e2]
        by_cases hj2 : j + 1 = c
        · rw [if_pos hj2, show (p * 3 + s) * 30 + c - 1 = (p * 3 + s) * 30 + j by omega, pk_us]
        · rw [if_neg hj2, pk_un (by omega)]
          exact ht j (by omega)
      · intro t' ha hb2
        refine h t' ha (fun i hi => ?_)
        rw [hb2 i hi, pk_un (by omega)]
    by_cases hc : 0 < (brk d p s k).1 ∧ (brk d p s k).2 + 1 + dV d p k ≤ hol d s
    · have hb : brk d p s (k + 1) = ((brk d p s k).1, (brk d p s k).2 + 1 + dV d p k) := by
        show (if _ then _ else _) = _
        rw [if_pos hc]
      have a1 : ¬ (brk d p s k).1 ≤ 0 := by omega
      have a2 : ¬ hol d s < (brk d p s k).2 + 1 + dV d p k := by omega
      simp (disch := omega) only [li0, li1, li2, li3, li4, li5, li6, li7, li8, li9, li10, li11, li12, li13, li16, li20, li24, li30, li32, li34, li40, li41, li48, li57, li59, li60, li97, li122, li255, li555, li700, li999, li100000, li100000000, li1000000000, nI_add, pk_mul, nI_leI, nI_ltI, nI_eq, nI_clamp, sm_sub, vp_in_T, bI_eq0, bI_eq1, true_and, and_true, true_implies, false_implies, not_true_eq_false, not_false_eq_true, Nat.add_zero, Nat.zero_add, Nat.zero_mul, Nat.mul_zero, a1, a2]
      have := key _ _ hb (by omega) (Or.inl rfl)
      rw [show (brk d p s k).2 + (1 + dV d p k) = (brk d p s k).2 + 1 + dV d p k by omega]
      exact this
    · have hb : brk d p s (k + 1) = ((brk d p s k).1 + 1, dV d p k) := by
        show (if _ then _ else _) = _
        rw [if_neg hc]
      have := key _ _ hb (by omega) (Or.inr rfl)
      refine ⟨fun _ => ?_, fun a1 => ⟨fun _ => ?_, fun a2 => absurd ⟨by omega, by omega⟩ hc⟩⟩
      · exact this
      · exact this
theorem breakUp_s {Post : (Nat → Int32) → (Nat → Int32) → Prop} (hO : OkB d) (hR : CRows d rows) (hp : p < dP d) (hs : s < 3)
    (h : ∀ t', (∀ j, j < cnt d p s → t' ((p * 3 + s) * 30 + j) = nI (tln d p s j)) → (∀ i, (i < (p * 3 + s) * 30 ∨ (p * 3 + s) * 30 + 30 ≤ i) → t' i = taken i) → Post (upd counts (p * 3 + s) (nI (cnt d p s))) t') : wpX2_breakUp counts taken (nI (dW d)) (nI (dS d)) rows (nI p) (nI s) Post := by
  unfold wpX2_breakUp
  rw [lineHolds_e hO hs, wordsOf_e hO hR hp]
  refine ⟨dN d p + 1, ?_⟩
  have := breakUp_L (W := nI (dW d)) (S := nI (dS d)) hO hR hp hs counts (dN d p) 0 taken (by omega) (fun j hj => absurd hj (by unfold brk; simp)) h
  simp (disch := omega) only [li0, li1, li2, li3, li4, li5, li6, li7, li8, li9, li10, li11, li12, li13, li16, li20, li24, li30, li32, li34, li40, li41, li48, li57, li59, li60, li97, li122, li255, li555, li700, li999, li100000, li100000000, li1000000000, nI_add, pk_mul, nI_leI, nI_ltI, nI_eq, nI_clamp, sm_sub, vp_in_T, bI_eq0, bI_eq1, true_and, and_true, true_implies, false_implies, not_true_eq_false, not_false_eq_true, Nat.add_zero, Nat.zero_add, Nat.zero_mul, Nat.mul_zero]
  exact this
theorem breakAll_in {Post : (Nat → Int32) → (Nat → Int32) → Prop} {K : (Nat → Int32) → (Nat → Int32) → Int32 → Prop} {P : Int32} (hO : OkB d) (hR : CRows d rows) (hp : p < dP d)
    (hK : ∀ counts taken, (∀ q, q < p + 1 → ∀ s, s < 3 → CLt d counts taken q s) → K counts taken (nI (p + 1))) :
    ∀ (r s : Nat) (counts taken : Nat → Int32), s + r = 3 → (∀ q, q < p → ∀ s, s < 3 → CLt d counts taken q s) → (∀ s', s' < s → CLt d counts taken p s') → wpX2_breakAll_L12 (nI (dW d)) (nI (dS d)) P rows Post K (r + 1) counts taken (nI p) (nI s)
  | 0, s, counts, taken, hs, h1, h2 => by
    have h16 := hO.p16
    have e : s = 3 := by omega
    subst e
    unfold wpX2_breakAll_L12
    have a : 2 < 3 := by decide
    simp (disch := omega) only [li0, li1, li2, li3, li4, li5, li6, li7, li8, li9, li10, li11, li12, li13, li16, li20, li24, li30, li32, li34, li40, li41, li48, li57, li59, li60, li97, li122, li255, li555, li700, li999, li100000, li100000000, li1000000000, nI_add, pk_mul, nI_leI, nI_ltI, nI_eq, nI_clamp, sm_sub, vp_in_T, bI_eq0, bI_eq1, true_and, and_true, true_implies, false_implies, not_true_eq_false, not_false_eq_true, Nat.add_zero, Nat.zero_add, Nat.zero_mul, Nat.mul_zero, a]
    refine hK _ _ (fun q hq s hs => ?_)
    rcases Nat.lt_or_ge q p with g | g
    · exact h1 q g s hs
    · rw [show q = p by omega]; exact h2 s hs
  | r + 1, s, counts, taken, hs, h1, h2 => by
    have h16 := hO.p16
    unfold wpX2_breakAll_L12
    have a : ¬ 2 < s := by omega
    simp (disch := omega) only [li0, li1, li2, li3, li4, li5, li6, li7, li8, li9, li10, li11, li12, li13, li16, li20, li24, li30, li32, li34, li40, li41, li48, li57, li59, li60, li97, li122, li255, li555, li700, li999, li100000, li100000000, li1000000000, nI_add, pk_mul, nI_leI, nI_ltI, nI_eq, nI_clamp, sm_sub, vp_in_T, bI_eq0, bI_eq1, true_and, and_true, true_implies, false_implies, not_true_eq_false, not_false_eq_true, Nat.add_zero, Nat.zero_add, Nat.zero_mul, Nat.mul_zero, a]
    refine breakUp_s hO hR hp (by omega) (fun t' g1 g2 => ?_)
    have far : ∀ q s', q < dP d → s' < 3 → (q < p ∨ (q = p ∧ s' < s)) → CLt d counts taken q s' → CLt d (upd counts (p * 3 + s) (nI (cnt d p s))) t' q s' := fun q s' hq hs' hlt g => by
      have h30 := cnt_le hO hq s'
      refine ⟨?_, fun j hj => ?_⟩
      · rw [pk_un (by omega)]; exact g.1
      · rw [g2 _ (Or.inl (by omega))]; exact g.2 j hj
    refine breakAll_in hO hR hp hK r (s + 1) _ _ (by omega) (fun q hq s' hs' => far q s' (by omega) hs' (Or.inl hq) (h1 q hq s' hs')) (fun s' hs' => ?_)
    rcases Nat.lt_or_ge s' s with g | g
    · exact far p s' hp (by omega) (Or.inr ⟨rfl, g⟩) (h2 s' g)
    · rw [show s' = s by omega]
      exact ⟨pk_us, g1⟩
theorem breakAll_L {Post : (Nat → Int32) → (Nat → Int32) → Prop} (hO : OkB d) (hR : CRows d rows) (h : ∀ counts taken, CL d counts taken → Post counts taken) :
    ∀ (r p : Nat) (counts taken : Nat → Int32), p + r = dP d → (∀ q, q < p → ∀ s, s < 3 → CLt d counts taken q s) → wpX2_breakAll_L2 (nI (dW d)) (nI (dS d)) (nI (dP d)) rows Post (r + 1) counts taken (nI p)
  | 0, p, counts, taken, hp, h1 => by
    have h16 := hO.p16
    unfold wpX2_breakAll_L2
    have a : dP d ≤ p := by omega
    simp (disch := omega) only [li0, li1, li2, li3, li4, li5, li6, li7, li8, li9, li10, li11, li12, li13, li16, li20, li24, li30, li32, li34, li40, li41, li48, li57, li59, li60, li97, li122, li255, li555, li700, li999, li100000, li100000000, li1000000000, nI_add, pk_mul, nI_leI, nI_ltI, nI_eq, nI_clamp, sm_sub, vp_in_T, bI_eq0, bI_eq1, true_and, and_true, true_implies, false_implies, not_true_eq_false, not_false_eq_true, Nat.add_zero, Nat.zero_add, Nat.zero_mul, Nat.mul_zero, a]
    exact h _ _ (fun q hq => h1 q (by omega))
  | r + 1, p, counts, taken, hp, h1 => by
    have h16 := hO.p16
    unfold wpX2_breakAll_L2
    have a : ¬ dP d ≤ p := by omega
    simp (disch := omega) only [li0, li1, li2, li3, li4, li5, li6, li7, li8, li9, li10, li11, li12, li13, li16, li20, li24, li30, li32, li34, li40, li41, li48, li57, li59, li60, li97, li122, li255, li555, li700, li999, li100000, li100000000, li1000000000, nI_add, pk_mul, nI_leI, nI_ltI, nI_eq, nI_clamp, sm_sub, vp_in_T, bI_eq0, bI_eq1, true_and, and_true, true_implies, false_implies, not_true_eq_false, not_false_eq_true, Nat.add_zero, Nat.zero_add, Nat.zero_mul, Nat.mul_zero, a]
    exact ⟨4, breakAll_in hO hR (by omega) (fun c t g => breakAll_L hO hR h r (p + 1) c t (by omega) g) 3 0 counts taken (by omega) h1 (fun s' hs' => absurd hs' (Nat.not_lt_zero _))⟩
theorem breakAll_s {Post : (Nat → Int32) → (Nat → Int32) → Prop} (hO : OkB d) (hR : CRows d rows) (h : ∀ counts taken, CL d counts taken → Post counts taken) : wpX2_breakAll counts taken (nI (dW d)) (nI (dS d)) (nI (dP d)) rows Post := by
  refine ⟨dP d + 1, ?_⟩
  have := breakAll_L hO hR h (dP d) 0 counts taken (by omega) (fun q hq => absurd hq (Nat.not_lt_zero _))
  simp only [li0]
  exact this
end CLN
