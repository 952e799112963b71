/-! THE LAW'S SEARCH: what it leaves, from any place on -/
def BRel (m : Mu) (d : Nat → Int32) (sa st : Nat) (bst : Option Nat) (B : Option (Nat × Ch)) : Prop := match B with
  | none => bst = none
  | some y => ∃ pl s t, bst = some pl ∧ LK m pl d y.2.1 y.2.2 (nI y.1) s t ∧ s ≠ sa ∧ s ≠ st ∧ t ≠ sa ∧ t ≠ st ∧ y.1 ≤ 3510
def exS (b sa st : Nat) : Nat → Nat → Prop := fun t a => (t = 2 ∧ a = b) ∨ (t = 0 ∧ (a = sa ∨ a = st))
/-- the rows of a book, of its settings, of its starts are apart -/
def ENV (d : Nat → Int32) (c st : Nat) (wd : Nat → Nat) (sa : Nat) : Prop := c ≠ sa ∧ c ≠ st ∧ sa ≠ st ∧ ∀ p, p < dP d → wd p ≠ sa ∧ wd p ≠ st
def SR (m : Mu) (d : Nat → Int32) (b c ps st : Nat) (g wd : Nat → Nat) (sa p : Nat) (sg : Nat → Nat) (q : Pl) (B : Option (Nat × Ch)) : Prop :=
  ∃ bst n, BK m b d c ps st g wd (bst, some sa, n) ∧ (0 < q.1 ∨ dP d = 0 → n = nI q.1) ∧ (∃ f, mI m sa = some (dP d, f) ∧ ∀ k, k < p → f k = nI (sg k)) ∧ (∃ f, mI m st = some (99, f) ∧ ∀ k, k < q.1 → f k = nI (fst1 d sg q k)) ∧ BRel m d sa st bst B
section SRCH
variable {d : Nat → Int32} {b c ps st : Nat} {g wd : Nat → Nat} {sa : Nat} {m m' : Mu}
theorem exS_n {t a : Nat} (h0 : t ≠ 0) (h2 : t ≠ 2) : ¬ exS b sa st t a := fun h => h.elim (fun z => h2 z.1) (fun z => h0 z.1)
theorem exS_I {a : Nat} (h1 : a ≠ sa) (h2 : a ≠ st) : ¬ exS b sa st 0 a := fun h => h.elim (fun z => absurd z.1 (by decide)) (fun z => z.2.elim h1 h2)
theorem exS_b : exS b sa st 2 b := Or.inl ⟨rfl, rfl⟩
theorem exS_sa : exS b sa st 0 sa := Or.inr ⟨rfl, Or.inl rfl⟩
theorem exS_st : exS b sa st 0 st := Or.inr ⟨rfl, Or.inr rfl⟩
theorem BRel.fx {bst : Option Nat} {B : Option (Nat × Ch)} (h : BRel m d sa st bst B) (f : Fx (exS b sa st) m m') : BRel m' d sa st bst B := by
  cases B with
  | none => exact h
  | some y =>
    obtain ⟨pl, s, t, h1, h2, h3, h4, h5, h6, h7⟩ := h
    exact ⟨pl, s, t, h1, h2.fx f (exS_n (by decide) (by decide)) (exS_I h3 h4) (exS_I h5 h6), h3, h4, h5, h6, h7⟩
theorem BK.upS {bs bs' : Option Nat × Option Nat × Int32} (hE : ENV d c st wd sa) (hB : BK m b d c ps st g wd bs) (h : Fx (exS b sa st) m m') (h1 : mB m' b = some (d 0, d 1, d 2, d 3, some c, some ps, bs'.1, bs'.2.1, some st, bs'.2.2)) (h2 : ∃ f, mI m' st = some (99, f)) : BK m' b d c ps st g wd bs' :=
  hB.up h h1 h2 (exS_I hE.1 hE.2.1) (exS_n (by decide) (by decide)) (fun p hp => ⟨exS_n (by decide) (by decide), exS_I (hE.2.2.2 p hp).1 (hE.2.2.2 p hp).2⟩)
/-- from a line of a paragraph on -/
def LCl (d : Nat → Int32) (b c ps st : Nat) (g wd : Nat → Nat) (sa p j i : Nat) : Prop := ∀ (n cB : Nat) (m : Mu) (Post : Mu → Prop) (sg : Nat → Nat) (q : Pl) (cn co la : Nat) (B : Option (Nat × Ch)), cn = cnt d p (sg p) → i ≤ cn → 7 * j + i + 2 ≤ n → SR m d b c ps st g wd sa (p + 1) sg q B → (∀ k, k < q.1 → q.2.1 k < p + 1) → (0 < p + (cn - i) → 0 < q.1) → (0 < q.1 → 0 < onP q) → onP q ≤ dH d → q.1 ≤ la → la = lp d sg p + (cn - i) → co ≤ 234 * lp d sg p + 39 * cn + 195 * (cn - i) → 5 * (pot B - pot (tgL d p cn j i sg B co q)) ≤ cB → (∀ m', Fx (exS b sa st) m m' → SR m' d b c ps st g wd sa (p + 1) sg q (tgL d p cn j i sg B co q) → Post m') → (wpG n).2 cB m b (nI p) (nI (cn - i)) (nI cn) (nI la) (nI (onP q)) (nI co) Post
/-- from a paragraph on -/
def PCl (d : Nat → Int32) (b c ps st : Nat) (g wd : Nat → Nat) (sa p j : Nat) : Prop := ∀ (n cB : Nat) (m : Mu) (Post : Mu → Prop) (sg : Nat → Nat) (q : Pl) (co la : Nat) (B : Option (Nat × Ch)), 7 * j + 1 ≤ n → SR m d b c ps st g wd sa p sg q B → (∀ k, k < q.1 → q.2.1 k < p) → (0 < p → 0 < q.1) → (0 < q.1 → 0 < onP q) → onP q ≤ dH d → q.1 ≤ la → la = lp d sg p → co ≤ 234 * la → 5 * (pot B - pot (upB B (co + VR d j (onP q)) (cnP d j (sg, q)))) ≤ cB → (∀ m', Fx (exS b sa st) m m' → SR m' d b c ps st g wd sa p sg q (upB B (co + VR d j (onP q)) (cnP d j (sg, q))) → Post m') → (wpG n).1 cB m b (nI p) (nI la) (nI (onP q)) (nI co) Post
theorem pot_tg {p cn j i co : Nat} {sg : Nat → Nat} {q : Pl} {B : Option (Nat × Ch)} : pot (tgL d p cn j i sg B co q) ≤ pot B := pot_up
theorem bC_117 (hS : SmB d) {p l cn : Nat} : bC d p l cn ≤ 117 := by
  have h3 := hS.2.2.2.1 3 (by decide)
  have h4 := hS.2.2.2.1 4 (by decide)
  have h5 := hS.2.2.2.1 5 (by decide)
  unfold bC
  split <;> split <;> split <;> omega
theorem cnt_5 (hS : SmB d) {p s : Nat} (hp : p < dP d) : cnt d p s ≤ 5 := Nat.le_trans (brk_le d p s _) (hS.2.2.2.2.1 p hp)
/-- the page ends ahead of the line -/
theorem b135_s {n u cB p j i cn co la : Nat} {Post : Mu → Prop} {sg : Nat → Nat} {q : Pl} {B : Option (Nat × Ch)} (hO : OkB d) (hS : SmB d) (hE : ENV d c st wd sa) (hp : p + (j + 1) = dP d) (IH : LCl d b c ps st g wd sa p j i) (hc : cn = cnt d p (sg p)) (hi : i + 1 ≤ cn) (hn : 7 * j + i + 2 ≤ n) (hR : SR m d b c ps st g wd sa (p + 1) sg q B) (hq1 : ∀ k, k < q.1 → q.2.1 k < p + 1) (hq : 0 < q.1) (hon : onP q ≤ dH d) (hlen : q.1 ≤ la) (hla : la = lp d sg p + (cn - (i + 1))) (hco : co ≤ 234 * lp d sg p + 39 * cn + 195 * (cn - (i + 1))) (heC : eC d (sta d p (cn - (i + 1))) (onP q) ≤ 78) (hcB : u + 5 * (pot B - pot (tgL d p cn j i sg B (co + eC d (sta d p (cn - (i + 1))) (onP q) + bC d p (cn - (i + 1)) cn) (addL q p (cn - (i + 1)) true))) ≤ cB) (hP : ∀ m', Fx (exS b sa st) m m' → SR m' d b c ps st g wd sa (p + 1) sg q (tgL d p cn j i sg B (co + eC d (sta d p (cn - (i + 1))) (onP q) + bC d p (cn - (i + 1)) cn) (addL q p (cn - (i + 1)) true)) → Post m') : wpX7_line_b135 (wpG n).1 (wpG n).2 cB Post m u b (nI p) (nI (cn - (i + 1))) (nI cn) (nI la) (nI (onP q)) (nI co) (bI (sta d p (cn - (i + 1)))) := by
  obtain ⟨bst, nn, hB, hnn, ⟨fs, hs, hs'⟩, ⟨ft, ht, ht'⟩, hBR⟩ := hR
  have hB' := hB
  obtain ⟨h1, ⟨fc, hc1, hc1'⟩, -, -, -⟩ := hB
  have enn := hnn (Or.inl hq)
  subst enn
  have hpd : p < dP d := by omega
  have hlp := lp_small (sg := sg) hO hS.2.2.2.2.1 p (by omega)
  have hP3 := hS.1
  have hc5 := cnt_5 hS (s := sg p) hpd
  rw [← hc] at hc5
  have hbC := bC_117 hS (p := p) (l := cn - (i + 1)) (cn := cn)
  have hl1 : cn - (i + 1) + 1 = cn - i := by omega
  generalize hE9 : eC d (sta d p (cn - (i + 1))) (onP q) = E at *
  generalize hb9 : bC d p (cn - (i + 1)) cn = bb at *
  unfold wpX7_line_b135
  refine ⟨_, h1, _, rfl, _, h1, 99, ft, q.1, ht, rfl, by omega, by decide, fun mu6 e6 => ?_⟩
  have f6 : Fx (exS b sa st) m mu6 := by rw [e6]; exact Fx.sI (Or.inl exS_st)
  have b6 : mB mu6 b = some (d 0, d 1, d 2, d 3, some c, some ps, bst, some sa, some st, nI q.1) := by rw [e6]; exact h1
  refine ⟨_, b6, _, b6, fun mu9 e9 => ?_⟩
  have f9 : Fx (exS b sa st) m mu9 := f6.trans (by rw [e9]; exact Fx.sB (Or.inl exS_b))
  have b9 : mB mu9 b = some (d 0, d 1, d 2, d 3, some c, some ps, bst, some sa, some st, nI (q.1 + 1)) := by
    rw [e9]
    show va_up _ _ _ _ = _
    rw [up_s, li1, nI_add]
  have t9 : mI mu9 st = some (99, upd ft q.1 (nI la)) := by
    rw [e9]
    show mI mu6 st = _
    rw [e6]
    exact up_s
  have s9 : mI mu9 sa = some (dP d, fs) := by
    rw [e9]
    show mI mu6 sa = _
    rw [e6]
    exact up_k hE.2.2.1 hs
  have B9 := hB'.upS (bs' := (bst, some sa, nI (q.1 + 1))) hE f9 b9 ⟨_, t9⟩
  have ea := addL_1 (q := q) (p := p) (l := cn - (i + 1)) (e := true) (Or.inl rfl)
  have R9 : SR mu9 d b c ps st g wd sa (p + 1) sg (addL q p (cn - (i + 1)) true) B := by
    refine ⟨bst, _, B9, fun _ => by rw [ea], ⟨fs, s9, hs'⟩, ⟨_, t9, fun k hk => ?_⟩, hBR.fx f9⟩
    rw [ea] at hk
    by_cases hkq : k = q.1
    · subst hkq
      rw [pk_us, fst1_new (Or.inl rfl), hla]
    · rw [pk_un hkq, fst1_old (by omega)]
      exact ht' k (by omega)
  have key : wpX7_line_b192 (wpG n).1 (wpG n).2 cB Post mu9 u b (nI p) (nI (cn - (i + 1))) (nI cn) b (nI p) (nI (cn - (i + 1)) + 1) (nI cn) (nI la + 1) 1 (nI co) (nI E) := by
    unfold wpX7_line_b192
    refine ⟨_, b9, by omega, beg_s hO B9 hpd (by omega) (by omega) ⟨_, b9, _, hcB, ?_⟩⟩
    have ih := IH n (5 * (pot B - pot (tgL d p cn j i sg B (co + E + bb) (addL q p (cn - (i + 1)) true)))) mu9 (fun mu18 => ∃ x19, mB mu18 b = some x19 ∧ ∃ x20, mB mu18 b = some x20 ∧ ∀ mu21, mu21 = sB mu18 b (x20.1, x20.2.1, x20.2.2.1, x20.2.2.2.1, x20.2.2.2.2.1, x20.2.2.2.2.2.1, x20.2.2.2.2.2.2.1, x20.2.2.2.2.2.2.2.1, x20.2.2.2.2.2.2.2.2.1, x19.2.2.2.2.2.2.2.2.2 - (1 : Int32)) → (u + 5 * (pot B - pot (tgL d p cn j i sg B (co + E + bb) (addL q p (cn - (i + 1)) true)))) ≤ cB ∧ Post mu21) sg (addL q p (cn - (i + 1)) true) cn (co + E + bb) (la + 1) B hc (by omega) hn R9 (addL_par hq1 (Nat.lt_succ_self p)) (fun _ => by rw [ea]; omega) (fun _ => by rw [onP_end]; decide) (by rw [onP_end]; have := hO.h2; omega) (by rw [ea]; omega) (by omega) (by omega) (Nat.le_refl _) (fun m18 f18 R18 => ?_)
    · rw [onP_end, ← hl1] at ih
      rw [hb9, li1, nI_add, nI_add, nI_add, nI_add]
      exact ih
    · obtain ⟨bst2, n2, hB2, hnn2, ⟨fs2, hs2, hs2'⟩, ⟨ft2, ht2, ht2'⟩, hBR2⟩ := R18
      have enn2 := hnn2 (Or.inl (by rw [ea]; omega))
      rw [ea] at enn2
      subst enn2
      refine ⟨_, hB2.1, _, hB2.1, fun mu21 e21 => ⟨hcB, ?_⟩⟩
      have f21 : Fx (exS b sa st) m18 mu21 := by rw [e21]; exact Fx.sB (Or.inl exS_b)
      have b21 : mB mu21 b = some (d 0, d 1, d 2, d 3, some c, some ps, bst2, some sa, some st, nI q.1) := by
        rw [e21]
        show va_up _ _ _ _ = _
        rw [up_s, li1, sm_sub (by omega), Nat.add_sub_cancel]
      have t21 : mI mu21 st = some (99, ft2) := by rw [e21]; exact ht2
      have s21 : mI mu21 sa = some (dP d, fs2) := by rw [e21]; exact hs2
      refine hP mu21 (f9.trans (f18.trans f21)) ⟨bst2, _, hB2.upS (bs' := (bst2, some sa, nI q.1)) hE f21 b21 ⟨_, t21⟩, fun _ => rfl, ⟨fs2, s21, hs2'⟩, ⟨ft2, t21, fun k hk => ?_⟩, hBR2.fx f21⟩
      rw [ht2' k (by rw [ea]; omega), fst1_old hk]
  refine ⟨fun z => ?_, fun z => ?_⟩
  · have z : bI (sta d p (cn - (i + 1))) = nI 0 := z
    rw [bI_eq0] at z
    have eE : E = (dH d - onP q) * dC d 2 := by rw [← hE9, z]; rfl
    refine ⟨_, b9, _, b9, _, rfl, 6, fc, 2, f9.I (exS_I hE.1 hE.2.1) hc1, rfl, by decide, by decide, ?_⟩
    rw [hc1' 2 (by decide), hO.c (k := 2) (by decide)]
    show wpX7_line_b192 _ _ _ _ _ _ _ _ _ _ _ _ _ _ _ _ _ ((d 1 - nI (onP q)) * nI (dC d 2))
    rw [hO.h, sm_sub hon, pk_mul, ← eE]
    exact key
  · have z : ¬ bI (sta d p (cn - (i + 1))) = nI 0 := z
    rw [bI_eq0] at z
    have z : sta d p (cn - (i + 1)) = true := by cases h : sta d p (cn - (i + 1)) <;> simp_all
    have eE : E = 0 := by rw [← hE9, z]; rfl
    rw [eE] at key
    exact key
/-- whether it may end -/
theorem b106_s {n u cB p l cn co la : Nat} {Post : Mu → Prop} {q : Pl} {bs : Option Nat × Option Nat × Int32} (hO : OkB d) (hB : BK m b d c ps st g wd bs) (hon : onP q ≤ dH d) (h0 : 0 < onP q) (hy : must d (sta d p l) (onP q) = true ∨ canE d (onP q) = true → eC d (sta d p l) (onP q) ≤ 39 * dL d → wpX7_line_b135 (wpG n).1 (wpG n).2 cB Post m u b (nI p) (nI l) (nI cn) (nI la) (nI (onP q)) (nI co) (bI (sta d p l))) (hC : dC d 2 ≤ 39) (hno : must d (sta d p l) (onP q) = false → canE d (onP q) = false → u ≤ cB ∧ Post m) : wpX7_line_b106 (wpG n).1 (wpG n).2 cB Post m u b (nI p) (nI l) (nI cn) (nI la) (nI (onP q)) (nI co) (bI (sta d p l)) := by
  obtain ⟨h1, -, -, -, -⟩ := hB
  have h40 := hO.h40
  have hl9 := hO.l9
  unfold wpX7_line_b106
  refine ⟨_, h1, fun z => hy (Or.inl ?_) ?_, fun z => ⟨fun y => hy (Or.inl ?_) ?_, fun y => ⟨_, h1, _, h1, fun x => hy (Or.inr ?_) ?_, fun x => ?_⟩⟩⟩
  · have z : d 1 ≤ nI (onP q) := z
    rw [hO.h, nI_leI (by omega) (by omega)] at z
    unfold must
    rw [if_neg (by omega)]
    split
    · rw [if_neg (by omega)]
    · rfl
  · have z : d 1 ≤ nI (onP q) := z
    rw [hO.h, nI_leI (by omega) (by omega)] at z
    unfold eC
    split
    · rw [show dH d - onP q = 0 by omega, Nat.zero_mul]; omega
    · omega
  · have y : ¬ bI (sta d p l) = nI 0 := y
    rw [bI_eq0] at y
    unfold must
    rw [if_neg (by omega), if_neg y]
  · have y : ¬ bI (sta d p l) = nI 0 := y
    rw [bI_eq0] at y
    unfold eC
    rw [if_neg y]
    omega
  · have x : d 1 - nI (onP q) ≤ d 3 := x
    rw [hO.h, hO.l, sm_sub hon, nI_leI (by omega) (by omega)] at x
    unfold canE
    rw [if_neg (by omega), if_neg (by omega)]
  · have x : d 1 - nI (onP q) ≤ d 3 := x
    rw [hO.h, hO.l, sm_sub hon, nI_leI (by omega) (by omega)] at x
    unfold eC
    split
    · rw [Nat.mul_comm 39]
      exact Nat.mul_le_mul x hC
    · omega
  · have x : ¬ d 1 - nI (onP q) ≤ d 3 := x
    have z : ¬ d 1 ≤ nI (onP q) := z
    have y : bI (sta d p l) = nI 0 := y
    rw [hO.h, hO.l, sm_sub hon, nI_leI (by omega) (by omega)] at x
    rw [hO.h, nI_leI (by omega) (by omega)] at z
    rw [bI_eq0] at y
    refine hno ?_ ?_
    · unfold must
      rw [if_neg (by omega), if_pos y, if_pos (by omega)]
    · unfold canE
      rw [if_neg (by omega), if_pos (by omega)]
/-- line by line -/
theorem b40_s {n cB p j i cn co la : Nat} {Post : Mu → Prop} {sg : Nat → Nat} {q : Pl} {B : Option (Nat × Ch)} (hO : OkB d) (hS : SmB d) (hE : ENV d c st wd sa) (hp : p + (j + 1) = dP d) (IH : LCl d b c ps st g wd sa p j i) (hc : cn = cnt d p (sg p)) (hi : i + 1 ≤ cn) (hn : 7 * j + i + 2 ≤ n) (hR : SR m d b c ps st g wd sa (p + 1) sg q B) (hq1 : ∀ k, k < q.1 → q.2.1 k < p + 1) (hq : 0 < p + (cn - (i + 1)) → 0 < q.1) (hon0 : 0 < q.1 → 0 < onP q) (hon : onP q ≤ dH d) (hlen : q.1 ≤ la) (hla : la = lp d sg p + (cn - (i + 1))) (hco : co ≤ 234 * lp d sg p + 39 * cn + 195 * (cn - (i + 1))) (hcB : 5 * (pot B - pot (tgL d p cn j (i + 1) sg B co q)) ≤ cB) (hP : ∀ m', Fx (exS b sa st) m m' → SR m' d b c ps st g wd sa (p + 1) sg q (tgL d p cn j (i + 1) sg B co q) → Post m') : wpX7_line_b40 (wpG n).1 (wpG n).2 cB Post m 0 b (nI p) (nI (cn - (i + 1))) (nI cn) (nI la) (nI (onP q)) (nI co) (bI (sta d p (cn - (i + 1)))) := by
  have hR' := hR
  obtain ⟨bst, nn, hB, hnn, ⟨fs, hs, hs'⟩, ⟨ft, ht, ht'⟩, hBR⟩ := hR
  have hB' := hB
  obtain ⟨h1, -, -, -, -⟩ := hB
  have hpd : p < dP d := by omega
  have hlp := lp_small (sg := sg) hO hS.2.2.2.2.1 p (by omega)
  have hP3 := hS.1
  have hL2 := hS.2.2.1
  have hH4 := hS.2.1.resolve_left (by omega)
  have hc5 := cnt_5 hS (s := sg p) hpd
  rw [← hc] at hc5
  have hl1 : cn - (i + 1) + 1 = cn - i := by omega
  unfold wpX7_line_b40
  refine ⟨fun z => ?_, fun z => ?_⟩
  · have hq0 : 0 < q.1 := by
      rcases Nat.eq_zero_or_pos q.1 with w | w
      · exact absurd (show nI (onP q) = nI 0 by rw [show onP q = 0 from if_pos w]) z
      · exact w
    have h0 := hon0 hq0
    have pto := pot_up (B := B) (v := co + Wl d p cn (VR d j) (i + 1) (onP q)) (x := cnP d j (sg, cnL d p cn (VR d j) (i + 1) q))
    have hmu : must d (sta d p (cn - (i + 1))) (onP q) = true → wpX7_line_b106 (wpG n).1 (wpG n).2 cB Post m 0 b (nI p) (nI (cn - (i + 1))) (nI cn) (nI la) (nI (onP q)) (nI co) (bI (sta d p (cn - (i + 1)))) := fun w => by
      have et := tgL_must (j := j) (sg := sg) (B := B) (co := co) w
      rw [et] at hcB
      refine b106_s hO hB' hon h0 (fun _ x => b135_s hO hS hE hp IH hc hi hn hR' hq1 hq0 hon hlen hla hco (by omega) (by omega) (fun m' f R => hP m' f (by rw [et]; exact R))) (hS.2.2.2.1 2 (by decide)) (fun y => ?_)
      rw [w] at y
      cases y
    refine ⟨_, h1, fun y => hmu ?_, fun y => ⟨fun x => hmu ?_, fun x => ⟨_, h1, 5 * (pot B - pot (tgL d p cn j i sg B co (addL q p (cn - (i + 1)) false))), ?_⟩⟩⟩
    · have y : d 1 ≤ nI (onP q) := y
      rw [hO.h, nI_leI (by omega) (by omega)] at y
      unfold must
      rw [if_neg (by omega)]
      split
      · rw [if_neg (by omega)]
      · rfl
    · have x : ¬ bI (sta d p (cn - (i + 1))) = nI 0 := x
      rw [bI_eq0] at x
      unfold must
      rw [if_neg (by omega), if_neg x]
    · have y : ¬ d 1 ≤ nI (onP q) := y
      rw [hO.h, nI_leI (by omega) (by omega)] at y
      have x : bI (sta d p (cn - (i + 1))) = nI 0 := x
      rw [bI_eq0] at x
      have hm : must d (sta d p (cn - (i + 1))) (onP q) = false := by
        unfold must
        rw [if_neg (by omega), if_pos x, if_pos (by omega)]
      have e0 := addL_0 (p := p) (l := cn - (i + 1)) hq0
      have R1 : SR m d b c ps st g wd sa (p + 1) sg (addL q p (cn - (i + 1)) false) B := ⟨bst, nn, hB', fun w => by rw [e0]; exact hnn (by rw [e0] at w; exact w), ⟨fs, hs, hs'⟩, ⟨ft, ht, fun k hk => by rw [e0] at hk; rw [fst1_old hk]; exact ht' k hk⟩, hBR⟩
      have hle : pot (tgL d p cn j (i + 1) sg B co q) ≤ pot (tgL d p cn j i sg B co (addL q p (cn - (i + 1)) false)) := by
        cases hcE : canE d (onP q)
        · rw [tgL_no hq0 hm hcE]
          exact Nat.le_refl _
        · rw [tgL_both hq0 hm hcE]
          exact pot_tg
      have hle2 := pot_tg (d := d) (p := p) (cn := cn) (j := j) (i := i) (co := co) (sg := sg) (q := addL q p (cn - (i + 1)) false) (B := B)
      refine ⟨by omega, ?_⟩
      have ih := IH n (5 * (pot B - pot (tgL d p cn j i sg B co (addL q p (cn - (i + 1)) false)))) m (fun mu27 => wpX7_line_b106 (wpG n).1 (wpG n).2 cB Post mu27 (0 + 5 * (pot B - pot (tgL d p cn j i sg B co (addL q p (cn - (i + 1)) false)))) b (nI p) (nI (cn - (i + 1))) (nI cn) (nI la) (nI (onP q)) (nI co) (bI (sta d p (cn - (i + 1))))) sg (addL q p (cn - (i + 1)) false) cn co (la + 1) B hc (by omega) hn R1 (addL_par hq1 (Nat.lt_succ_self p)) (fun _ => by rw [e0]; omega) (fun _ => by rw [onP_on hq0]; omega) (by rw [onP_on hq0]; omega) (by rw [e0]; omega) (by omega) (by omega) (Nat.le_refl _) (fun m27 f27 R27 => ?_)
      · rw [onP_on hq0, ← hl1] at ih
        rw [li1, nI_add, nI_add, nI_add]
        exact ih
      · have R2 : SR m27 d b c ps st g wd sa (p + 1) sg q (tgL d p cn j i sg B co (addL q p (cn - (i + 1)) false)) := by
          obtain ⟨bst2, n2, hB2, hnn2, hs2, ⟨ft2, ht2, ht2'⟩, hBR2⟩ := R27
          exact ⟨bst2, n2, hB2, fun w => by rw [← e0]; exact hnn2 (by rw [e0]; exact w), hs2, ⟨ft2, ht2, fun k hk => by rw [← fst1_old hk]; exact ht2' k (by rw [e0]; exact hk)⟩, hBR2⟩
        have R2' := R2
        obtain ⟨bst2, n2, hB2, -⟩ := R2'
        refine b106_s hO hB2 hon h0 (fun w v => ?_) (hS.2.2.2.1 2 (by decide)) (fun _ w => ?_)
        · have hcE : canE d (onP q) = true := by
            rcases w with w | w
            · rw [hm] at w; cases w
            · exact w
          have et := tgL_both (j := j) (sg := sg) (B := B) (co := co) hq0 hm hcE
          rw [et] at hcB hle
          exact b135_s hO hS hE hp IH hc hi hn R2 hq1 hq0 hon hlen hla hco (by omega) (by omega) (fun m' f R => hP m' (f27.trans f) (by rw [et]; exact R))
        · have et := tgL_no (j := j) (sg := sg) (B := B) (co := co) hq0 hm w
          rw [et] at hcB
          exact ⟨by omega, hP m27 f27 (by rw [et]; exact R2)⟩
  · have hq0 : q.1 = 0 := by
      rcases Nat.eq_zero_or_pos q.1 with w | w
      · exact w
      · have := hon0 w
        have z : nI (onP q) = nI 0 := z
        rw [nI_eq (by have := hO.h40; omega) (by decide)] at z
        omega
    have hz : ¬ 0 < p + (cn - (i + 1)) := fun w => by have := hq w; omega
    have hp0 : p = 0 := by omega
    have hl0 : cn - (i + 1) = 0 := by omega
    have hla0 : la = 0 := by
      rw [hla, hl0, hp0]
      rfl
    have et := tgL_fst (d := d) (p := p) (c := cn) (j := j) (i := i) (sg := sg) (B := B) (co := co) hq0
    rw [et] at hcB
    have ea := addL_1 (q := q) (p := p) (l := cn - (i + 1)) (e := false) (Or.inr hq0)
    have ep := onP_fst (q := q) (p := p) (c := cn - (i + 1)) (e := false) hq0
    refine ⟨_, h1, _, rfl, 99, ft, 0, ht, rfl, by decide, by decide, fun mu30 e30 => ?_⟩
    have f30 : Fx (exS b sa st) m mu30 := by rw [e30]; exact Fx.sI (Or.inl exS_st)
    have b30 : mB mu30 b = some (d 0, d 1, d 2, d 3, some c, some ps, bst, some sa, some st, nn) := by rw [e30]; exact h1
    refine ⟨_, b30, fun mu32 e32 => ?_⟩
    have f32 : Fx (exS b sa st) m mu32 := f30.trans (by rw [e32]; exact Fx.sB (Or.inl exS_b))
    have b32 : mB mu32 b = some (d 0, d 1, d 2, d 3, some c, some ps, bst, some sa, some st, nI 1) := by
      rw [e32]
      show va_up _ _ _ _ = _
      rw [up_s]
      rfl
    have t32 : mI mu32 st = some (99, upd ft 0 0) := by
      rw [e32]
      show mI mu30 st = _
      rw [e30]
      exact up_s
    have s32 : mI mu32 sa = some (dP d, fs) := by
      rw [e32]
      show mI mu30 sa = _
      rw [e30]
      exact up_k hE.2.2.1 hs
    have R32 : SR mu32 d b c ps st g wd sa (p + 1) sg (addL q p (cn - (i + 1)) false) B := by
      refine ⟨bst, _, hB'.upS (bs' := (bst, some sa, nI 1)) hE f32 b32 ⟨_, t32⟩, fun _ => by rw [ea, hq0], ⟨fs, s32, hs'⟩, ⟨_, t32, fun k hk => ?_⟩, hBR.fx f32⟩
      rw [ea, hq0] at hk
      have hk0 : k = 0 := by omega
      subst hk0
      have := fst1_new (d := d) (p := p) (sg := sg) (l := cn - (i + 1)) (q := q) (e := false) (Or.inr hq0)
      rw [hq0] at this
      rw [this, hl0, hp0, pk_us]
      rfl
    refine ⟨_, b32, cB, by omega, ?_⟩
    have ih := IH n cB mu32 (fun mu36 => (0 + cB) ≤ cB ∧ Post mu36) sg (addL q p (cn - (i + 1)) false) cn co (la + 1) B hc (by omega) hn R32 (addL_par hq1 (Nat.lt_succ_self p)) (fun _ => by rw [ea]; omega) (fun _ => by rw [ep]; decide) (by rw [ep]; have := hO.h2; omega) (by rw [ea]; omega) (by omega) (by omega) hcB (fun m' f R => ⟨by omega, hP m' (f32.trans f) ?_⟩)
    · rw [ep, ← hl1, hla0] at ih
      rw [li1, nI_add]
      exact ih
    · rw [et]
      obtain ⟨bst2, n2, hB2, hnn2, hs2, ⟨ft2, ht2, ht2'⟩, hBR2⟩ := R
      exact ⟨bst2, n2, hB2, fun w => by omega, hs2, ⟨ft2, ht2, fun k hk => by omega⟩, hBR2⟩
theorem LC_s {p j : Nat} (hO : OkB d) (hS : SmB d) (hE : ENV d c st wd sa) (hp : p + (j + 1) = dP d) (hPC : PCl d b c ps st g wd sa (p + 1) j) : ∀ i, LCl d b c ps st g wd sa p j i
  | 0 => by
    intro n cB m Post sg q cn co la B hc hi hn hR hq1 hq hon0 hon hlen hla hco hcB hP
    cases n with
    | zero => exact absurd hn (by omega)
    | succ n =>
      have hpd : p < dP d := by omega
      have hcp := cnt_pos hO hpd (sg p)
      rw [← hc] at hcp
      have e : lp d sg (p + 1) = lp d sg p + cn := by rw [hc]; rfl
      have hR' := hR
      obtain ⟨bst, nn, hB, -⟩ := hR
      show wpX7_line_R (wpG n).1 (wpG n).2 cB m b (nI p) (nI (cn - 0)) (nI cn) (nI la) (nI (onP q)) (nI co) Post
      unfold wpX7_line_R
      refine ⟨fun z => absurd rfl z, fun _ => ⟨_, hB.1, cB, by omega, ?_⟩⟩
      rw [li1, nI_add]
      exact hPC n cB m _ sg q co la B (by omega) hR' hq1 (fun _ => hq (by omega)) hon0 hon hlen (by omega) (by omega) hcB (fun m' f R => ⟨by omega, hP m' f R⟩)
  | i + 1 => by
    intro n cB m Post sg q cn co la B hc hi hn hR hq1 hq hon0 hon hlen hla hco hcB hP
    cases n with
    | zero => exact absurd hn (by omega)
    | succ n =>
      have hpd : p < dP d := by omega
      have hc30 := cnt_le hO hpd (sg p)
      rw [← hc] at hc30
      have h16 := hO.p16
      have key := b40_s (n := n) (cB := cB) hO hS hE hp (LC_s hO hS hE hp hPC i) hc hi (by omega) hR hq1 hq hon0 hon hlen hla hco hcB hP
      obtain ⟨bst, nn, hB, -⟩ := hR
      obtain ⟨h1, -, ⟨qq, h3, h3'⟩, h4, -⟩ := hB
      obtain ⟨h5, -⟩ := h4 p hpd
      show wpX7_line_R (wpG n).1 (wpG n).2 cB m b (nI p) (nI (cn - (i + 1))) (nI cn) (nI la) (nI (onP q)) (nI co) Post
      unfold wpX7_line_R
      refine ⟨fun _ => ⟨fun z => ?_, fun z => ⟨_, h1, _, rfl, _, _, p, h3, rfl, hpd, by omega, _, h3' p hpd, _, h5, fun y => ?_, fun y => ?_⟩⟩, fun z => absurd ((nI_eq (by omega) (by omega)).mp z) (by omega)⟩
      · have hl : cn - (i + 1) ≠ 0 := fun w => z (by rw [w]; rfl)
        have e : sta d p (cn - (i + 1)) = false := by unfold sta; rw [decide_eq_false hl]; rfl
        rw [e] at key
        exact key
      · have hl : cn - (i + 1) = 0 := (nI_eq (by omega) (by decide)).mp (show nI (cn - (i + 1)) = nI 0 from z)
        have y : d (11 + 34 * p + 1) = nI 0 := y
        rw [hO.b hpd, bI_eq0] at y
        have e : sta d p (cn - (i + 1)) = false := by unfold sta; rw [y, Bool.and_false]
        rw [e] at key
        exact key
      · have hl : cn - (i + 1) = 0 := (nI_eq (by omega) (by decide)).mp (show nI (cn - (i + 1)) = nI 0 from z)
        have y : ¬ d (11 + 34 * p + 1) = nI 0 := y
        rw [hO.b hpd, bI_eq0] at y
        have y : dB d p = true := by cases h : dB d p <;> simp_all
        have e : sta d p (cn - (i + 1)) = true := by unfold sta; rw [y, decide_eq_true hl]; rfl
        rw [e] at key
        exact key
end SRCH
