/-! THE REFERENCE: what is told -/
theorem fails_0 {k : Int32} {Post : Int32 → Int32 → Prop} : wpX7_fails 0 0 k Post = Post 0 0 := by
  unfold wpX7_fails wpX7_fails_b16
  simp
theorem fails_1 {k : Int32} {Post : Int32 → Int32 → Prop} (hk : k ≠ 0) : wpX7_fails 0 1 k Post = Post 1 k := by
  unfold wpX7_fails wpX7_fails_b16
  simp [hk]
section MTD
variable {d : Nat → Int32} {q : Pl} {lines : Nat → Nat → Int32} {sg : Nat → Nat} {pages : Int32} {st fp fl sz bc ec : Nat → Int32} {po : Nat → Nat → Int32} {p k : Nat} {Post : Int32 → Prop}
theorem noPar_s {a1 : Int32} {Post : Int32 → Int32 → Prop} (hO : OkB d) (hT : ∀ p, p < dP d → a1 = nI p → Post 0 0) (hF : ¬ inR a1 (dP d) → Post 1 1) : wpX7_noParagraph 0 d a1 Post := by
  have h16 := hO.p16
  unfold wpX7_noParagraph wpX7_noParagraph_b22
  rw [show d (4 : Int32).toNatClampNeg = nI (dP d) from hO.p]
  refine ⟨vp_in_nI (n := 4) (by decide) (by decide), inN_s (by omega) (fun p hp e => ?_) (fun hn => ?_)⟩
  · refine ⟨fun _ => ?_, fun z => absurd z (by decide)⟩
    rw [fails_0]
    exact ⟨Or.inl rfl, hT p hp e⟩
  · refine ⟨fun z => absurd rfl z, fun _ => ?_⟩
    rw [fails_1 (by decide)]
    exact ⟨Or.inr rfl, hF hn⟩
theorem MPlan.b480 (hO : OkB d) (h : MPlan d q sg lines pages st fp fl sz bc ec po) : q.1 ≤ 480 := by
  have h1 := h.2.2.2.1.1
  have h2 := hO.p16
  omega
theorem MPlan.pg (h : MPlan d q sg lines pages st fp fl sz bc ec po) : pages = nI q.1 := h.2.2.2.2.1
theorem MPlan.at (h : MPlan d q sg lines pages st fp fl sz bc ec po) (hk : k < q.1) : fp k = nI (q.2.1 k) ∧ fl k = nI (q.2.2.1 k) ∧ sz k = nI (q.2.2.2 k) ∧ bc k = nI (pbC d q (fun p => cnt d p (sg p)) k) ∧ ec k = nI (peC d q k) := h.2.2.2.2.2.1 k hk
theorem MPlan.in (h : MPlan d q sg lines pages st fp fl sz bc ec po) (hk : k < q.1) : q.2.1 k < dP d ∧ q.2.2.1 k < 30 ∧ 1 ≤ q.2.2.2 k ∧ q.2.2.2 k ≤ dH d := h.2.2.2.1.2 k hk
theorem costsM_p (hO : OkB d) (h : MPlan d q sg lines pages st fp fl sz bc ec po) (b : Nat) (hP : Post (nI (b + sumN (termP d q (fun p => cnt d p (sg p)) 0) q.1))) : ∀ (r k : Nat), k + r = q.1 → wpX7_costs_L36 pages d lines st bc ec Post (r + 1) (nI (b + sumN (termP d q (fun p => cnt d p (sg p)) 0) k)) (nI k)
  | 0, k, hk => by
    have hb := h.b480 hO
    unfold wpX7_costs_L36
    rw [h.pg]
    have a : nI q.1 ≤ nI k := by rw [nI_leI (by omega) (by omega)]; omega
    refine ⟨fun _ => ?_, fun z => absurd a z⟩
    rw [show k = q.1 by omega]
    exact hP
  | r + 1, k, hk => by
    have hb := h.b480 hO
    have hat := h.at (show k < q.1 by omega)
    have ih := costsM_p hO h b hP r (k + 1) (by omega)
    unfold wpX7_costs_L36
    have a : ¬ pages ≤ nI k := by rw [h.pg, nI_leI (by omega) (by omega)]; omega
    refine ⟨fun z => absurd z a, fun _ => ⟨vp_in_nI (by omega) (by decide), vp_in_nI (by omega) (by decide), ?_⟩⟩
    rw [nI_clamp (by omega), hat.2.2.2.1, hat.2.2.2.2, nI_add, nI_add, nI_1]
    have e : b + sumN (termP d q (fun p => cnt d p (sg p)) 0) (k + 1) = b + sumN (termP d q (fun p => cnt d p (sg p)) 0) k + (pbC d q (fun p => cnt d p (sg p)) k + peC d q k) := by
      show b + (_ + _) = _
      have : termP d q (fun p => cnt d p (sg p)) 0 k = pbC d q (fun p => cnt d p (sg p)) k + peC d q k := rfl
      omega
    rw [e] at ih
    exact ih
theorem costsM_s (hO : OkB d) (h : MPlan d q sg lines pages st fp fl sz bc ec po) (hP : Post (nI (numP d q sg 0))) : ∀ (r p : Nat), p + r = dP d → wpX7_costs_L4 pages d lines st bc ec Post (r + 1) (nI (sumN (fun p => sC d (sg p) (cnt d p (sg p))) p)) (nI p)
  | 0, p, hp => by
    have h16 := hO.p16
    unfold wpX7_costs_L4
    rw [show d (4 : Int32).toNatClampNeg = nI (dP d) from hO.p]
    have a : nI (dP d) ≤ nI p := by rw [nI_leI (by omega) (by omega)]; omega
    refine ⟨vp_in_nI (n := 4) (by decide) (by decide), fun _ => ⟨q.1 + 1, ?_⟩, fun z => absurd a z⟩
    rw [show p = dP d by omega]
    refine costsM_p hO h (sumN (fun p => sC d (sg p) (cnt d p (sg p))) (dP d)) ?_ q.1 0 (by omega)
    unfold numP at hP
    rw [if_pos rfl] at hP
    exact hP
  | r + 1, p, hp => by
    have h16 := hO.p16
    unfold wpX7_costs_L4
    rw [show d (4 : Int32).toNatClampNeg = nI (dP d) from hO.p]
    have a : ¬ nI (dP d) ≤ nI p := by rw [nI_leI (by omega) (by omega)]; omega
    refine ⟨vp_in_nI (n := 4) (by decide) (by decide), fun z => absurd z a, fun _ => ⟨vp_in_nI (by omega) (by decide), ?_⟩⟩
    rw [nI_clamp (by omega), h.2.1 p (by omega), settingCost_m hO h.1 (by omega) (h.2.2.1 p (by omega)), nI_add, nI_1]
    exact costsM_s hO h hP r (p + 1) (by omega)
theorem isWP_m (hO : OkB d) (h : MPlan d q sg lines pages st fp fl sz bc ec po) (hk : k < q.1) : wpX7_isWidowPage lines st fp fl (nI k) Post = Post (bI (wdP q (fun p => cnt d p (sg p)) k)) := by
  have hb := h.b480 hO
  have h16 := hO.p16
  have hat := h.at hk
  have hin := h.in hk
  have hs := h.2.2.1 _ hin.1
  have hc := cnt_le hO hin.1 (sg (q.2.1 k))
  unfold wpX7_isWidowPage wdP
  rw [nI_clamp (show k < 2 ^ 31 by omega), hat.1, hat.2.1, nI_clamp (show q.2.1 k < 2 ^ 31 by omega), h.2.1 _ hin.1, nI_clamp (show sg (q.2.1 k) < 2 ^ 31 by omega), h.1 _ hin.1 _ hs]
  simp (disch := omega) only [isWd_m, li0, li1, li2, li3, li4, li5, li6, li7, li8, li9, li10, li11, li12, li13, li16, li20, li24, li30, li32, li34, li40, li41, li48, li57, li59, li60, li97, li122, li255, li555, li700, li999, li100000, li100000000, li1000000000, nI_add, pk_mul, nI_leI, nI_ltI, nI_eq, nI_clamp, sm_sub, vp_in_T, bI_eq0, bI_eq1, true_and, and_true, true_implies, false_implies, not_true_eq_false, not_false_eq_true, Nat.add_zero, Nat.zero_add, Nat.zero_mul, Nat.mul_zero]
  by_cases e : k ≤ 0
  · simp only [e, if_true, not_true_eq_false, false_implies, true_implies, and_true, bI_f]
  · cases isWd (q.2.2.1 k) (cnt d (q.2.1 k) (sg (q.2.1 k))) <;> simp only [e, if_false, not_true_eq_false, not_false_eq_true, false_implies, true_implies, and_true, true_and, bI_f, bI_t, reduceCtorEq]
/-- an orphan's line is the second of two at least -/
def LtC (d : Nat → Int32) (q : Pl) (sg : Nat → Nat) : Prop := ∀ k, k < q.1 → q.2.2.1 k < cnt d (q.2.1 k) (sg (q.2.1 k))
theorem toldPlan_L (hO : OkB d) (h : MPlan d q sg lines pages st fp fl sz bc ec po) (hlt : LtC d q sg) {what : Nat} (hw : what < 7) (hw2 : 2 ≤ what) (hP : Post (nI (sumN (termP d q (fun p => cnt d p (sg p)) what) q.1))) :
    ∀ (r k : Nat), k + r = q.1 → wpX7_toldPlan_L25 pages d lines st fp fl sz bc ec (nI what) Post (r + 1) (nI (sumN (termP d q (fun p => cnt d p (sg p)) what) k)) (nI k)
  | 0, k, hk => by
    have hb := h.b480 hO
    unfold wpX7_toldPlan_L25
    rw [h.pg]
    have a : nI q.1 ≤ nI k := by rw [nI_leI (by omega) (by omega)]; omega
    refine ⟨fun _ => ?_, fun z => absurd a z⟩
    rw [show k = q.1 by omega]
    exact hP
  | r + 1, k, hk => by
    have hb := h.b480 hO
    have h16 := hO.p16
    have h40 := hO.h40
    have g : k < q.1 := by omega
    have hat := h.at g
    have hin := h.in g
    have ih := toldPlan_L hO h hlt hw hw2 hP r (k + 1) (by omega)
    unfold wpX7_toldPlan_L25 wpX7_toldPlan_b94 wpX7_toldPlan_b114 wpX7_toldPlan_b115 wpX7_toldPlan_b140 wpX7_toldPlan_b141 wpX7_toldPlan_b174 wpX7_toldPlan_b188
    have a2 : ¬ pages ≤ nI k := by rw [h.pg, nI_leI (by omega) (by omega)]; omega
    have ex : sumN (termP d q (fun p => cnt d p (sg p)) what) (k + 1) = sumN (termP d q (fun p => cnt d p (sg p)) what) k + termP d q (fun p => cnt d p (sg p)) what k := rfl
    rw [ex] at ih
    refine ⟨fun z => absurd z a2, fun _ => ?_⟩
    rw [nI_clamp (show k < 2 ^ 31 by omega), hat.1, hat.2.1, hat.2.2.1]
    simp (disch := omega) only [li0, li1, li2, li3, li4, li5, li6, li7, li8, li9, li10, li11, li12, li13, li16, li20, li24, li30, li32, li34, li40, li41, li48, li57, li59, li60, li97, li122, li255, li555, li700, li999, li100000, li100000000, li1000000000, nI_add, pk_mul, nI_leI, nI_ltI, nI_eq, nI_clamp, sm_sub, vp_in_T, bI_eq0, bI_eq1, true_and, and_true, true_implies, false_implies, not_true_eq_false, not_false_eq_true, Nat.add_zero, Nat.zero_add, Nat.zero_mul, Nat.mul_zero, isWP_m hO h g, isHg_m hO hin.1, hO.h]
    have ho : isOr (q.2.2.1 k) (cnt d (q.2.1 k) (sg (q.2.1 k))) = decide (q.2.2.1 k = 1) := by
      have hl := hlt k g
      unfold isOr
      by_cases e : q.2.2.1 k = 1
      · rw [if_neg (by omega), if_pos e, decide_eq_true e]
      · rw [decide_eq_false e, if_neg e]
        split <;> rfl
    rcases what with _ | _ | _ | _ | _ | _ | _ | what
    · omega
    · omega
    · simp only [termP, b2n] at ih ⊢
      cases hh : wdP q (fun p => cnt d p (sg p)) k <;> rw [hh] at ih <;> simp at ih ⊢ <;> exact ih
    · simp only [termP, b2n, orP, ho] at ih ⊢
      by_cases e1 : k ≤ 0
      · rw [if_pos e1] at ih
        have e1' : k = 0 := by omega
        simp [e1'] at ih ⊢
        exact ih
      · rw [if_neg e1] at ih
        have e1' : ¬ k = 0 := by omega
        by_cases e2 : q.2.2.1 k = 1
        · simp [e1', e2] at ih ⊢
          exact ih
        · simp [e1', e2] at ih ⊢
          exact ih
    · simp only [termP, b2n] at ih ⊢
      by_cases e1 : k ≤ 0
      · have eh : hgP d q k = false := if_pos e1
        rw [eh] at ih
        have e1' : k = 0 := by omega
        simp [e1'] at ih ⊢
        exact ih
      · have eh : hgP d q k = isHg d (q.2.1 k) (q.2.2.1 k) := if_neg e1
        rw [eh] at ih
        have e1' : ¬ k = 0 := by omega
        cases hh : isHg d (q.2.1 k) (q.2.2.1 k) <;> rw [hh] at ih <;> simp [e1'] at ih ⊢ <;> exact ih
    · simp only [termP, msP] at ih ⊢
      rw [h.pg] at ih ⊢
      by_cases e1 : k = q.1 - 1
      · rw [if_pos e1] at ih
        have e2 : ¬ k < q.1 - 1 := by omega
        have e3 : q.1 - 1 ≤ k := by omega
        simp (disch := omega) only [li0, li1, li2, li3, li4, li5, li6, li7, li8, li9, li10, li11, li12, li13, li16, li20, li24, li30, li32, li34, li40, li41, li48, li57, li59, li60, li97, li122, li255, li555, li700, li999, li100000, li100000000, li1000000000, nI_add, pk_mul, nI_leI, nI_ltI, nI_eq, nI_clamp, sm_sub, vp_in_T, bI_eq0, bI_eq1, true_and, and_true, true_implies, false_implies, not_true_eq_false, not_false_eq_true, Nat.add_zero, Nat.zero_add, Nat.zero_mul, Nat.mul_zero, e3]
        simp at ih ⊢
        exact ih
      · rw [if_neg e1] at ih
        have e3 : ¬ q.1 - 1 ≤ k := by omega
        simp (disch := omega) only [li0, li1, li2, li3, li4, li5, li6, li7, li8, li9, li10, li11, li12, li13, li16, li20, li24, li30, li32, li34, li40, li41, li48, li57, li59, li60, li97, li122, li255, li555, li700, li999, li100000, li100000000, li1000000000, nI_add, pk_mul, nI_leI, nI_ltI, nI_eq, nI_clamp, sm_sub, vp_in_T, bI_eq0, bI_eq1, true_and, and_true, true_implies, false_implies, not_true_eq_false, not_false_eq_true, Nat.add_zero, Nat.zero_add, Nat.zero_mul, Nat.mul_zero, e3]
        simp at ih ⊢
        exact ih
    · simp [termP] at ih ⊢; exact ih
    · omega
theorem toldPlan_s (hO : OkB d) (h : MPlan d q sg lines pages st fp fl sz bc ec po) (hlt : LtC d q sg) {what : Nat} (hw : what < 7) (hP : Post (nI (numP d q sg what))) : wpX7_toldPlan pages d lines st fp fl sz bc ec (nI what) Post := by
  have hb := h.b480 hO
  unfold wpX7_toldPlan wpX7_costs
  refine ⟨fun z => ?_, fun z => ⟨fun y => ?_, fun y => ?_⟩⟩
  · have w2 : 2 ≤ what := (nI_leI (by decide) (by omega)).mp z
    unfold numP at hP
    rw [if_neg (by omega), Nat.zero_add] at hP
    exact ⟨_, toldPlan_L hO h hlt hw w2 hP q.1 0 (by omega)⟩
  · have w0 : what ≠ 0 := fun e => y (by rw [e]; rfl)
    have w2 : ¬ 2 ≤ what := fun e => z (nI_le (a := 2) e (by omega))
    have e : what = 1 := by omega
    subst e
    rw [h.pg]
    have en1 : numP d q sg 1 = q.1 := by
      unfold numP
      rw [if_neg (by decide), Nat.zero_add]
      have : ∀ n, sumN (termP d q (fun p => cnt d p (sg p)) 1) n = n := fun n => by
        induction n with
        | zero => rfl
        | succ n ih => show sumN _ n + 1 = n + 1; rw [ih]
      exact this _
    rw [en1] at hP
    exact hP
  · have w0 : what = 0 := (nI_eq (b := 0) (by omega) (by decide)).mp y
    subst w0
    exact ⟨_, costsM_s hO h hP (dP d) 0 (by omega)⟩
theorem toldPage_s (hO : OkB d) (h : MPlan d q sg lines pages st fp fl sz bc ec po) (hk : k < q.1) {what : Nat} (hw : what < 5) (hP : Post (nI (pgN d q (fun p => cnt d p (sg p)) k what))) : wpX7_toldPage fp fl sz bc ec (nI k) (nI what) Post := by
  have hb := h.b480 hO
  have hat := h.at hk
  unfold wpX7_toldPage
  rw [nI_clamp (show k < 2 ^ 31 by omega), hat.1, hat.2.1, hat.2.2.1, hat.2.2.2.1, hat.2.2.2.2]
  simp (disch := omega) only [li0, li1, li2, li3, li4, li5, li6, li7, li8, li9, li10, li11, li12, li13, li16, li20, li24, li30, li32, li34, li40, li41, li48, li57, li59, li60, li97, li122, li255, li555, li700, li999, li100000, li100000000, li1000000000, nI_add, pk_mul, nI_leI, nI_ltI, nI_eq, nI_clamp, sm_sub, vp_in_T, bI_eq0, bI_eq1, true_and, and_true, true_implies, false_implies, not_true_eq_false, not_false_eq_true, Nat.add_zero, Nat.zero_add, Nat.zero_mul, Nat.mul_zero]
  rcases what with _ | _ | _ | _ | _ | what
  · simp [pgN] at hP ⊢; exact hP
  · simp [pgN] at hP ⊢; exact hP
  · simp [pgN] at hP ⊢; exact hP
  · simp [pgN] at hP ⊢; exact hP
  · simp [pgN] at hP ⊢; exact hP
  · omega
/-! every page begins with a line of its paragraph -/
theorem LtC_addL {p line : Nat} {e : Bool} (h : LtC d q sg) (hl : line < cnt d p (sg p)) : LtC d (addL q p line e) sg := by
  by_cases c : e = true ∨ q.1 = 0
  · rw [addL_new c]
    intro k hk
    have hk : k < q.1 + 1 := hk
    show upN q.2.2.1 q.1 line k < cnt d (upN q.2.1 q.1 p k) (sg (upN q.2.1 q.1 p k))
    by_cases g : k = q.1
    · subst g; rw [upN_s, upN_s]; exact hl
    · rw [upN_n g, upN_n g]; exact h k (by omega)
  · rw [addL_old c]
    exact fun k hk => h k hk
theorem LtC_lyL {p : Nat} {f : Nat → Nat → Bool} (h : LtC d q sg) : ∀ k, k ≤ cnt d p (sg p) → LtC d (lyL p f q k) sg
  | 0, _ => h
  | k + 1, hk => LtC_addL (LtC_lyL h k (by omega)) (by omega)
theorem LtC_lyP : ∀ p, LtC d (lyP d sg p) sg
  | 0 => fun k hk => absurd hk (Nat.not_lt_zero _)
  | p + 1 => LtC_lyL (LtC_lyP p) _ (Nat.le_refl _)
theorem LtC_lyB : ∀ p, LtC d (lyB d p) (sgB d)
  | 0 => fun k hk => absurd hk (Nat.not_lt_zero _)
  | p + 1 => LtC_lyL (LtC_lyB p) _ (Nat.le_refl _)
theorem LtC_pl (best : Bool) : LtC d (plQ d best) (plS d best) := by
  cases best
  · exact LtC_lyP _
  · exact LtC_lyB _
end MTD
