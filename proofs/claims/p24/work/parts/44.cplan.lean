/-! THE CLASS'S PLAN -/
def CPl (q : Pl) (pages : Int32) (fl fp sz : Nat → Int32) : Prop := pages = nI q.1 ∧ ∀ k, k < q.1 → fp k = nI (q.2.1 k) ∧ fl k = nI (q.2.2.1 k) ∧ sz k = nI (q.2.2.2 k)
/-- a plan's numbers are small: n paragraphs are laid -/
def PlOk (d : Nat → Int32) (q : Pl) (n : Nat) : Prop := q.1 ≤ 30 * n ∧ ∀ k, k < q.1 → q.2.1 k < n ∧ q.2.2.1 k < 30 ∧ 1 ≤ q.2.2.2 k ∧ q.2.2.2 k ≤ dH d
def CSet (d : Nat → Int32) (sg : Nat → Nat) (n : Nat) (counts settings : Nat → Int32) : Prop := ∀ p, p < n → counts p = nI (cnt d p (sg p)) ∧ settings p = nI (sg p)
theorem onP_le {d : Nat → Int32} {q : Pl} {n : Nat} (h : PlOk d q n) : onP q ≤ dH d := by
  unfold onP
  split
  · omega
  · exact (h.2 (q.1 - 1) (by omega)).2.2.2
section CPN
variable {d : Nat → Int32} {q : Pl} {counts settings fl fp sz rows costs : Nat → Int32} {n k p line : Nat} {Post : Int32 → Prop}
theorem lastPage_e {pages : Int32} (hq : CPl q pages fl fp sz) (hb : q.1 ≤ 480) : wpX3_linesOnLastPage pages sz Post = Post (nI (onP q)) := by
  obtain ⟨rfl, hk⟩ := hq
  unfold wpX3_linesOnLastPage onP
  by_cases e : q.1 = 0
  · rw [if_pos e, e, li1, z_m1, get_neg (show (-1 : Int32) < nI 0 by decide)]
  · rw [if_neg e]
    simp (disch := omega) only [li0, li1, li2, li3, li4, li5, li6, li7, li8, li9, li10, li11, li12, li13, li16, li20, li24, li30, li32, li34, li40, li41, li48, li57, li59, li60, li97, li122, li255, li555, li700, li999, li100000, li100000000, li1000000000, nI_add, pk_mul, nI_leI, nI_ltI, nI_eq, nI_clamp, sm_sub, vp_in_T, bI_eq0, bI_eq1, true_and, and_true, true_implies, false_implies, not_true_eq_false, not_false_eq_true, Nat.add_zero, Nat.zero_add, Nat.zero_mul, Nat.mul_zero, get_e]
    rw [(hk (q.1 - 1) (by omega)).2.2]
theorem addLine_s {pages : Int32} {Post : Int32 → (Nat → Int32) → (Nat → Int32) → (Nat → Int32) → Prop} {e : Bool} (hq : CPl q pages fl fp sz) (hb : q.1 < 480)
    (h : ∀ pages' fl' fp' sz', CPl (addL q p line e) pages' fl' fp' sz' → Post pages' fl' fp' sz') : wpX3_addLine pages fl fp sz (nI p) (nI line) (bI e) Post := by
  have hq0 := hq
  obtain ⟨rfl, hk⟩ := hq
  by_cases hc : e = true ∨ q.1 = 0
  · have new : wpX3_addLine_b11 (nI p) (nI line) (bI e) Post (nI q.1) fl fp sz := by
      unfold wpX3_addLine_b11 wpX3_addLine_b57 wpX3_linesOnLastPage
      simp (disch := omega) only [li0, li1, li2, li3, li4, li5, li6, li7, li8, li9, li10, li11, li12, li13, li16, li20, li24, li30, li32, li34, li40, li41, li48, li57, li59, li60, li97, li122, li255, li555, li700, li999, li100000, li100000000, li1000000000, nI_add, pk_mul, nI_leI, nI_ltI, nI_eq, nI_clamp, sm_sub, vp_in_T, bI_eq0, bI_eq1, true_and, and_true, true_implies, false_implies, not_true_eq_false, not_false_eq_true, Nat.add_zero, Nat.zero_add, Nat.zero_mul, Nat.mul_zero, put_e, get_e, Nat.add_sub_cancel, pk_us]
      refine h _ _ _ _ ?_
      have ea : addL q p line e = (q.1 + 1, upN q.2.1 q.1 p, upN q.2.2.1 q.1 line, upN q.2.2.2 q.1 1) := by
        unfold addL
        rw [if_pos (by rcases hc with hc | hc <;> simp [hc])]
      rw [ea]
      refine ⟨rfl, fun j hj => ?_⟩
      have hj : j < q.1 + 1 := hj
      dsimp only
      by_cases g : j = q.1
      · subst g
        exact ⟨by rw [pk_us, upN_s], by rw [pk_us, upN_s], by rw [pk_us, upN_s]⟩
      · obtain ⟨a, b, c⟩ := hk j (by omega)
        exact ⟨by rw [pk_un g, upN_n g]; exact a, by rw [pk_un g, upN_n g]; exact b, by rw [pk_un g, pk_un g, upN_n g]; exact c⟩
    unfold wpX3_addLine
    cases e with
    | true => exact ⟨fun _ => new, fun z => absurd z (by decide)⟩
    | false =>
      rcases hc with hc | hc
      · cases hc
      · refine ⟨fun z => absurd rfl z, fun _ => ⟨fun z => absurd (by rw [hc]; rfl) z, fun _ => new⟩⟩
  · have h1 : e = false := by cases e <;> simp_all
    have h2 : q.1 ≠ 0 := fun z => hc (Or.inr z)
    subst h1
    have ea : addL q p line false = (q.1, q.2.1, q.2.2.1, upN q.2.2.2 (q.1 - 1) (q.2.2.2 (q.1 - 1) + 1)) := by
      unfold addL
      rw [if_neg (by simp [h2])]
    unfold wpX3_addLine wpX3_addLine_b57
    have h3 : ¬ nI q.1 = 0 := nI_ne0 (by omega) (by omega)
    refine ⟨fun z => absurd rfl z, fun _ => ⟨fun _ => ?_, fun z => absurd z h3⟩⟩
    rw [lastPage_e hq0 (by omega)]
    simp (disch := omega) only [li0, li1, li2, li3, li4, li5, li6, li7, li8, li9, li10, li11, li12, li13, li16, li20, li24, li30, li32, li34, li40, li41, li48, li57, li59, li60, li97, li122, li255, li555, li700, li999, li100000, li100000000, li1000000000, nI_add, pk_mul, nI_leI, nI_ltI, nI_eq, nI_clamp, sm_sub, vp_in_T, bI_eq0, bI_eq1, true_and, and_true, true_implies, false_implies, not_true_eq_false, not_false_eq_true, Nat.add_zero, Nat.zero_add, Nat.zero_mul, Nat.mul_zero, put_e]
    refine h _ _ _ _ ?_
    rw [ea]
    refine ⟨rfl, fun j hj => ?_⟩
    have hj : j < q.1 := hj
    obtain ⟨a, b, c⟩ := hk j hj
    refine ⟨a, b, ?_⟩
    have eo : onP q = q.2.2.2 (q.1 - 1) := if_neg h2
    by_cases g : j = q.1 - 1
    · subst g
      show upd sz (q.1 - 1) (nI (onP q + 1)) (q.1 - 1) = nI (upN q.2.2.2 (q.1 - 1) (q.2.2.2 (q.1 - 1) + 1) (q.1 - 1))
      rw [pk_us, upN_s, eo]
    · show upd sz (q.1 - 1) (nI (onP q + 1)) j = nI (upN q.2.2.2 (q.1 - 1) (q.2.2.2 (q.1 - 1) + 1) j)
      rw [pk_un g, upN_n g]
      exact c
theorem setPar_s {P : Int32} {sg : Nat → Nat} {s c : Nat} {Post : Int32 → (Nat → Int32) → (Nat → Int32) → Prop} (hp : p < 16)
    (h : ∀ counts' settings', (∀ j, j ≠ p → counts' j = counts j ∧ settings' j = settings j) → counts' p = nI c → settings' p = nI s → Post (nI (p + 1)) counts' settings') : wpX3_setParagraph P counts settings (nI p) (nI s) (nI c) Post := by
  unfold wpX3_setParagraph
  simp (disch := omega) only [li0, li1, li2, li3, li4, li5, li6, li7, li8, li9, li10, li11, li12, li13, li16, li20, li24, li30, li32, li34, li40, li41, li48, li57, li59, li60, li97, li122, li255, li555, li700, li999, li100000, li100000000, li1000000000, nI_add, pk_mul, nI_leI, nI_ltI, nI_eq, nI_clamp, sm_sub, vp_in_T, bI_eq0, bI_eq1, true_and, and_true, true_implies, false_implies, not_true_eq_false, not_false_eq_true, Nat.add_zero, Nat.zero_add, Nat.zero_mul, Nat.mul_zero, put_e]
  exact h _ _ (fun j hj => ⟨pk_un hj, pk_un hj⟩) pk_us pk_us
end CPN
/-! what is told of a page -/
def wdP (q : Pl) (cf : Nat → Nat) (k : Nat) : Bool := if k ≤ 0 then false else isWd (q.2.2.1 k) (cf (q.2.1 k))
def orP (q : Pl) (cf : Nat → Nat) (k : Nat) : Bool := if k ≤ 0 then false else isOr (q.2.2.1 k) (cf (q.2.1 k))
def hgP (d : Nat → Int32) (q : Pl) (k : Nat) : Bool := if k ≤ 0 then false else isHg d (q.2.1 k) (q.2.2.1 k)
def pbC (d : Nat → Int32) (q : Pl) (cf : Nat → Nat) (k : Nat) : Nat := if k = 0 then 0 else bC d (q.2.1 k) (q.2.2.1 k) (cf (q.2.1 k))
def peC (d : Nat → Int32) (q : Pl) (k : Nat) : Nat := if k = q.1 - 1 then 0 else eC d (sta d (q.2.1 (k + 1)) (q.2.2.1 (k + 1))) (q.2.2.2 k)
def msP (d : Nat → Int32) (q : Pl) (k : Nat) : Nat := if k = q.1 - 1 then 0 else dH d - q.2.2.2 k
def sumN (f : Nat → Nat) : Nat → Nat
  | 0 => 0
  | n + 1 => sumN f n + f n
def b2n (b : Bool) : Nat := if b then 1 else 0
def termP (d : Nat → Int32) (q : Pl) (cf : Nat → Nat) (what k : Nat) : Nat :=
  match what with
  | 0 => pbC d q cf k + peC d q k
  | 1 => 1
  | 2 => b2n (wdP q cf k)
  | 3 => b2n (orP q cf k)
  | 4 => b2n (hgP d q k)
  | 5 => msP d q k
  | _ => q.2.2.2 k
def numP (d : Nat → Int32) (q : Pl) (sg : Nat → Nat) (what : Nat) : Nat := (if what = 0 then sumN (fun p => sC d (sg p) (cnt d p (sg p))) (dP d) else 0) + sumN (termP d q (fun p => cnt d p (sg p)) what) q.1
def pgN (d : Nat → Int32) (q : Pl) (cf : Nat → Nat) (k what : Nat) : Nat :=
  match what with
  | 0 => q.2.2.2 k
  | 1 => q.2.1 k
  | 2 => q.2.2.1 k
  | 3 => pbC d q cf k
  | _ => peC d q k
def pgW (q : Pl) (p line : Nat) : Nat → Nat
  | 0 => 0
  | k + 1 => if q.2.1 k < p ∨ (q.2.1 k = p ∧ q.2.2.1 k ≤ line) then k else pgW q p line k
/-- a plan of all of d, as the class has it -/
def CPlan (d : Nat → Int32) (q : Pl) (sg : Nat → Nat) (pages P : Int32) (counts fl fp settings sz : Nat → Int32) : Prop := CPl q pages fl fp sz ∧ P = nI (dP d) ∧ CSet d sg (dP d) counts settings ∧ PlOk d q (dP d) ∧ ∀ p, p < dP d → sg p < 3
section CPM
variable {d : Nat → Int32} {q : Pl} {sg : Nat → Nat} {pages P : Int32} {counts settings fl fp sz rows costs : Nat → Int32} {n k p line : Nat} {Post : Int32 → Prop}
theorem CPlan.b480 (hO : OkB d) (h : CPlan d q sg pages P counts fl fp settings sz) : q.1 ≤ 480 := by
  have h1 := h.2.2.2.1.1
  have h2 := hO.p16
  omega
theorem fPar_e (hO : OkB d) (h : CPlan d q sg pages P counts fl fp settings sz) (hk : k < q.1) : wpX3_firstParagraph fp (nI k) Post = Post (nI (q.2.1 k)) := by
  have := h.b480 hO
  unfold wpX3_firstParagraph
  rw [get_e (by omega) (by decide), (h.1.2 k hk).1]
theorem fLine_e (hO : OkB d) (h : CPlan d q sg pages P counts fl fp settings sz) (hk : k < q.1) : wpX3_firstLine fl (nI k) Post = Post (nI (q.2.2.1 k)) := by
  have := h.b480 hO
  unfold wpX3_firstLine
  rw [get_e (by omega) (by decide), (h.1.2 k hk).2.1]
theorem size_e (hO : OkB d) (h : CPlan d q sg pages P counts fl fp settings sz) (hk : k < q.1) : wpX6_get 480 sz (nI k) Post = Post (nI (q.2.2.2 k)) := by
  have := h.b480 hO
  rw [get_e (by omega) (by decide), (h.1.2 k hk).2.2]
theorem linesOf_e (hO : OkB d) (h : CPlan d q sg pages P counts fl fp settings sz) (hp : p < dP d) : wpX3_linesOf counts (nI p) Post = Post (nI (cnt d p (sg p))) := by
  have := hO.p16
  unfold wpX3_linesOf
  rw [get_e (by omega) (by decide), (h.2.2.1 p hp).1]
theorem settingOf_e (hO : OkB d) (h : CPlan d q sg pages P counts fl fp settings sz) (hp : p < dP d) : wpX3_settingOf settings (nI p) Post = Post (nI (sg p)) := by
  have := hO.p16
  unfold wpX3_settingOf
  rw [get_e (by omega) (by decide), (h.2.2.1 p hp).2]
theorem CPlan.fpn (h : CPlan d q sg pages P counts fl fp settings sz) (hk : k < q.1) : q.2.1 k < dP d := (h.2.2.2.1.2 k hk).1
theorem CPlan.fl30 (h : CPlan d q sg pages P counts fl fp settings sz) (hk : k < q.1) : q.2.2.1 k < 30 := (h.2.2.2.1.2 k hk).2.1
theorem CPlan.szH (h : CPlan d q sg pages P counts fl fp settings sz) (hk : k < q.1) : q.2.2.2 k ≤ dH d := (h.2.2.2.1.2 k hk).2.2.2
theorem isWidowP_e (hO : OkB d) (h : CPlan d q sg pages P counts fl fp settings sz) (hk : k < q.1) : wpX3_isWidow counts fl fp (nI k) Post = Post (bI (wdP q (fun p => cnt d p (sg p)) k)) := by
  have h1 := h.b480 hO
  have h2 := h.fpn hk
  have h3 := h.fl30 hk
  have h4 := cnt_le hO h2 (sg (q.2.1 k))
  unfold wpX3_isWidow wdP
  simp (disch := omega) only [fLine_e hO h hk, fPar_e hO h hk, linesOf_e hO h h2, isWidow_e, li0, li1, li2, li3, li4, li5, li6, li7, li8, li9, li10, li11, li12, li13, li16, li20, li24, li30, li32, li34, li40, li41, li48, li57, li59, li60, li97, li122, li255, li555, li700, li999, li100000, li100000000, li1000000000, nI_add, pk_mul, nI_leI, nI_ltI, nI_eq, nI_clamp, sm_sub, vp_in_T, bI_eq0, bI_eq1, true_and, and_true, true_implies, false_implies, not_true_eq_false, not_false_eq_true, Nat.add_zero, Nat.zero_add, Nat.zero_mul, Nat.mul_zero]
  by_cases e : k ≤ 0
  · simp only [e, if_true, not_true_eq_false, false_implies, true_implies, and_true, bI_f]
  · cases isWd (q.2.2.1 k) (cnt d (q.2.1 k) (sg (q.2.1 k))) <;> simp only [e, if_false, not_true_eq_false, not_false_eq_true, false_implies, true_implies, and_true, true_and, bI_f, bI_t, reduceCtorEq]
theorem isOrphanP_e (hO : OkB d) (h : CPlan d q sg pages P counts fl fp settings sz) (hk : k < q.1) : wpX3_isOrphan counts fl fp (nI k) Post = Post (bI (orP q (fun p => cnt d p (sg p)) k)) := by
  have h1 := h.b480 hO
  have h2 := h.fpn hk
  have h3 := h.fl30 hk
  have h4 := cnt_le hO h2 (sg (q.2.1 k))
  unfold wpX3_isOrphan orP
  simp (disch := omega) only [fLine_e hO h hk, fPar_e hO h hk, linesOf_e hO h h2, isOrphan_e, li0, li1, li2, li3, li4, li5, li6, li7, li8, li9, li10, li11, li12, li13, li16, li20, li24, li30, li32, li34, li40, li41, li48, li57, li59, li60, li97, li122, li255, li555, li700, li999, li100000, li100000000, li1000000000, nI_add, pk_mul, nI_leI, nI_ltI, nI_eq, nI_clamp, sm_sub, vp_in_T, bI_eq0, bI_eq1, true_and, and_true, true_implies, false_implies, not_true_eq_false, not_false_eq_true, Nat.add_zero, Nat.zero_add, Nat.zero_mul, Nat.mul_zero]
  by_cases e : k ≤ 0
  · simp only [e, if_true, not_true_eq_false, false_implies, true_implies, and_true, bI_f]
  · cases isOr (q.2.2.1 k) (cnt d (q.2.1 k) (sg (q.2.1 k))) <;> simp only [e, if_false, not_true_eq_false, not_false_eq_true, false_implies, true_implies, and_true, true_and, bI_f, bI_t, reduceCtorEq]
theorem behind_e (hO : OkB d) (hR : CRows d rows) (h : CPlan d q sg pages P counts fl fp settings sz) (hk : k < q.1) : wpX3_isBehindHeading fl fp rows (nI k) Post = Post (bI (hgP d q k)) := by
  have h1 := h.b480 hO
  have h2 := h.fpn hk
  have h3 := h.fl30 hk
  have h16 := hO.p16
  unfold wpX3_isBehindHeading hgP isHg
  simp (disch := omega) only [fLine_e hO h hk, fPar_e hO h hk, li0, li1, li2, li3, li4, li5, li6, li7, li8, li9, li10, li11, li12, li13, li16, li20, li24, li30, li32, li34, li40, li41, li48, li57, li59, li60, li97, li122, li255, li555, li700, li999, li100000, li100000000, li1000000000, nI_add, pk_mul, nI_leI, nI_ltI, nI_eq, nI_clamp, sm_sub, vp_in_T, bI_eq0, bI_eq1, true_and, and_true, true_implies, false_implies, not_true_eq_false, not_false_eq_true, Nat.add_zero, Nat.zero_add, Nat.zero_mul, Nat.mul_zero]
  by_cases e : k ≤ 0
  · simp only [e, if_true, not_true_eq_false, false_implies, true_implies, and_true, bI_f]
  · by_cases e2 : q.2.1 k ≤ 0
    · have e2' : ¬ 0 < q.2.1 k := by omega
      simp only [e, e2, e2', if_false, not_true_eq_false, not_false_eq_true, false_implies, true_implies, and_true, true_and, bI_f, bI_t, decide_false, Bool.false_and, Bool.and_false]
    · have e2' : 0 < q.2.1 k := by omega
      by_cases e3 : q.2.2.1 k = 0
      · simp (disch := omega) only [li0, li1, li2, li3, li4, li5, li6, li7, li8, li9, li10, li11, li12, li13, li16, li20, li24, li30, li32, li34, li40, li41, li48, li57, li59, li60, li97, li122, li255, li555, li700, li999, li100000, li100000000, li1000000000, nI_add, pk_mul, nI_leI, nI_ltI, nI_eq, nI_clamp, sm_sub, vp_in_T, bI_eq0, bI_eq1, true_and, and_true, true_implies, false_implies, not_true_eq_false, not_false_eq_true, Nat.add_zero, Nat.zero_add, Nat.zero_mul, Nat.mul_zero, isHeading_e hO hR (show q.2.1 k - 1 < dP d by omega), e, e2, e2', e3, if_false, decide_true, Bool.true_and]
        cases dHd d (q.2.1 k - 1) <;> simp only [not_true_eq_false, not_false_eq_true, false_implies, true_implies, and_true, true_and, bI_f, bI_t, reduceCtorEq]
      · simp only [e, e2, e2', e3, if_false, not_true_eq_false, not_false_eq_true, false_implies, true_implies, and_true, true_and, bI_f, bI_t, decide_false, Bool.false_and, Bool.and_false]
theorem beginCostP_e (hO : OkB d) (hC : CCosts d costs) (hR : CRows d rows) (h : CPlan d q sg pages P counts fl fp settings sz) (hk : k < q.1) : wpX3_beginCost counts fl fp costs rows (nI k) Post = Post (nI (pbC d q (fun p => cnt d p (sg p)) k)) := by
  have h1 := h.b480 hO
  have h2 := h.fpn hk
  have h3 := h.fl30 hk
  have h4 := cnt_le hO h2 (sg (q.2.1 k))
  unfold wpX3_beginCost pbC bC
  simp (disch := omega) only [fLine_e hO h hk, fPar_e hO h hk, linesOf_e hO h h2, behind_e hO hR h hk, beginCost_e hC, li0, li1, li2, li3, li4, li5, li6, li7, li8, li9, li10, li11, li12, li13, li16, li20, li24, li30, li32, li34, li40, li41, li48, li57, li59, li60, li97, li122, li255, li555, li700, li999, li100000, li100000000, li1000000000, nI_add, pk_mul, nI_leI, nI_ltI, nI_eq, nI_clamp, sm_sub, vp_in_T, bI_eq0, bI_eq1, true_and, and_true, true_implies, false_implies, not_true_eq_false, not_false_eq_true, Nat.add_zero, Nat.zero_add, Nat.zero_mul, Nat.mul_zero]
  by_cases e : k = 0
  · simp only [e, if_true, not_true_eq_false, false_implies, true_implies, true_and]
  · have e2 : hgP d q k = isHg d (q.2.1 k) (q.2.2.1 k) := if_neg (by omega)
    simp only [e, e2, if_false, not_false_eq_true, false_implies, true_implies, and_true]
theorem endCostP_e (hO : OkB d) (hC : CCosts d costs) (hR : CRows d rows) (h : CPlan d q sg pages P counts fl fp settings sz) (hk : k < q.1) : wpX3_endCost pages fl fp sz (nI (dH d)) costs rows (nI k) Post = Post (nI (peC d q k)) := by
  have h1 := h.b480 hO
  have h2 := h.szH hk
  have h40 := hO.h40
  have h16 := hO.p16
  have ep := h.1.1
  unfold wpX3_endCost wpX3_endCost_b40 wpX3_endCost_b41 peC sta
  have t0 : ∀ {X : Prop} (st : Bool) , (bI st = bI st → X) = X := fun st => by simp
  by_cases e : k = q.1 - 1
  · rw [ep]
    simp (disch := omega) only [li0, li1, li2, li3, li4, li5, li6, li7, li8, li9, li10, li11, li12, li13, li16, li20, li24, li30, li32, li34, li40, li41, li48, li57, li59, li60, li97, li122, li255, li555, li700, li999, li100000, li100000000, li1000000000, nI_add, pk_mul, nI_leI, nI_ltI, nI_eq, nI_clamp, sm_sub, vp_in_T, bI_eq0, bI_eq1, true_and, and_true, true_implies, false_implies, not_true_eq_false, not_false_eq_true, Nat.add_zero, Nat.zero_add, Nat.zero_mul, Nat.mul_zero, e, if_true]
  · have g1 : k + 1 < q.1 := by omega
    have h5 := h.fpn g1
    have h6 := h.fl30 g1
    rw [ep]
    simp (disch := omega) only [li0, li1, li2, li3, li4, li5, li6, li7, li8, li9, li10, li11, li12, li13, li16, li20, li24, li30, li32, li34, li40, li41, li48, li57, li59, li60, li97, li122, li255, li555, li700, li999, li100000, li100000000, li1000000000, nI_add, pk_mul, nI_leI, nI_ltI, nI_eq, nI_clamp, sm_sub, vp_in_T, bI_eq0, bI_eq1, true_and, and_true, true_implies, false_implies, not_true_eq_false, not_false_eq_true, Nat.add_zero, Nat.zero_add, Nat.zero_mul, Nat.mul_zero, fLine_e hO h g1, fPar_e hO h g1, beginsPage_e hO hR h5, size_e hO h hk, e, if_false]
    have f0 := endCost_e (Post := Post) (st := false) hO hC h2
    have f1 := endCost_e (Post := Post) (st := true) hO hC h2
    rw [bI_f] at f0
    rw [bI_t] at f1
    rw [f0, f1]
    by_cases e3 : q.2.2.1 (k + 1) = 0
    · cases dB d (q.2.1 (k + 1)) <;> simp only [e3, not_true_eq_false, not_false_eq_true, false_implies, true_implies, and_true, true_and, decide_true, Bool.true_and, reduceCtorEq]
    · simp only [e3, not_true_eq_false, not_false_eq_true, false_implies, true_implies, and_true, true_and, decide_false, Bool.false_and]
theorem missing_e (hO : OkB d) (h : CPlan d q sg pages P counts fl fp settings sz) (hk : k < q.1) : wpX3_missingLines pages sz (nI (dH d)) (nI k) Post = Post (nI (msP d q k)) := by
  have h1 := h.b480 hO
  have h2 := h.szH hk
  have h40 := hO.h40
  have ep := h.1.1
  unfold wpX3_missingLines msP
  rw [ep]
  by_cases e : k = q.1 - 1
  · simp (disch := omega) only [li0, li1, li2, li3, li4, li5, li6, li7, li8, li9, li10, li11, li12, li13, li16, li20, li24, li30, li32, li34, li40, li41, li48, li57, li59, li60, li97, li122, li255, li555, li700, li999, li100000, li100000000, li1000000000, nI_add, pk_mul, nI_leI, nI_ltI, nI_eq, nI_clamp, sm_sub, vp_in_T, bI_eq0, bI_eq1, true_and, and_true, true_implies, false_implies, not_true_eq_false, not_false_eq_true, Nat.add_zero, Nat.zero_add, Nat.zero_mul, Nat.mul_zero, e, if_true]
  · simp (disch := omega) only [li0, li1, li2, li3, li4, li5, li6, li7, li8, li9, li10, li11, li12, li13, li16, li20, li24, li30, li32, li34, li40, li41, li48, li57, li59, li60, li97, li122, li255, li555, li700, li999, li100000, li100000000, li1000000000, nI_add, pk_mul, nI_leI, nI_ltI, nI_eq, nI_clamp, sm_sub, vp_in_T, bI_eq0, bI_eq1, true_and, and_true, true_implies, false_implies, not_true_eq_false, not_false_eq_true, Nat.add_zero, Nat.zero_add, Nat.zero_mul, Nat.mul_zero, size_e hO h hk, e, if_false]
theorem pageNumber_e (hO : OkB d) (hC : CCosts d costs) (hR : CRows d rows) (h : CPlan d q sg pages P counts fl fp settings sz) (hk : k < q.1) {what : Nat} (hw : what < 5) : wpX3_pageNumber pages counts fl fp sz (nI (dH d)) costs rows (nI k) (nI what) Post = Post (nI (pgN d q (fun p => cnt d p (sg p)) k what)) := by
  unfold wpX3_pageNumber
  simp (disch := omega) only [li0, li1, li2, li3, li4, li5, li6, li7, li8, li9, li10, li11, li12, li13, li16, li20, li24, li30, li32, li34, li40, li41, li48, li57, li59, li60, li97, li122, li255, li555, li700, li999, li100000, li100000000, li1000000000, nI_add, pk_mul, nI_leI, nI_ltI, nI_eq, nI_clamp, sm_sub, vp_in_T, bI_eq0, bI_eq1, true_and, and_true, true_implies, false_implies, not_true_eq_false, not_false_eq_true, Nat.add_zero, Nat.zero_add, Nat.zero_mul, Nat.mul_zero, size_e hO h hk, fPar_e hO h hk, fLine_e hO h hk, beginCostP_e hO hC hR h hk, endCostP_e hO hC hR h hk]
  rcases what with _ | _ | _ | _ | _ | what
  · simp [pgN]
  · simp [pgN]
  · simp [pgN]
  · simp [pgN]
  · simp [pgN]
  · omega
theorem setCosts_L (hO : OkB d) (hC : CCosts d costs) (h : CPlan d q sg pages P counts fl fp settings sz) : ∀ (r p : Nat), p + r = dP d → Post (nI (sumN (fun p => sC d (sg p) (cnt d p (sg p))) (dP d))) → wpX3_settingCosts_L4 P counts settings costs Post (r + 1) (nI (sumN (fun p => sC d (sg p) (cnt d p (sg p))) p)) (nI p)
  | 0, p, hp, hP => by
    have h16 := hO.p16
    have e : p = dP d := by omega
    subst e
    unfold wpX3_settingCosts_L4
    rw [h.2.1]
    simp (disch := omega) only [li0, li1, li2, li3, li4, li5, li6, li7, li8, li9, li10, li11, li12, li13, li16, li20, li24, li30, li32, li34, li40, li41, li48, li57, li59, li60, li97, li122, li255, li555, li700, li999, li100000, li100000000, li1000000000, nI_add, pk_mul, nI_leI, nI_ltI, nI_eq, nI_clamp, sm_sub, vp_in_T, bI_eq0, bI_eq1, true_and, and_true, true_implies, false_implies, not_true_eq_false, not_false_eq_true, Nat.add_zero, Nat.zero_add, Nat.zero_mul, Nat.mul_zero, Nat.le_refl]
    exact hP
  | r + 1, p, hp, hP => by
    have h16 := hO.p16
    have a : ¬ dP d ≤ p := by omega
    have h2 := h.2.2.2.2 p (by omega)
    unfold wpX3_settingCosts_L4
    have ih := setCosts_L hO hC h r (p + 1) (by omega) hP
    rw [h.2.1] at ih ⊢
    simp (disch := omega) only [li0, li1, li2, li3, li4, li5, li6, li7, li8, li9, li10, li11, li12, li13, li16, li20, li24, li30, li32, li34, li40, li41, li48, li57, li59, li60, li97, li122, li255, li555, li700, li999, li100000, li100000000, li1000000000, nI_add, pk_mul, nI_leI, nI_ltI, nI_eq, nI_clamp, sm_sub, vp_in_T, bI_eq0, bI_eq1, true_and, and_true, true_implies, false_implies, not_true_eq_false, not_false_eq_true, Nat.add_zero, Nat.zero_add, Nat.zero_mul, Nat.mul_zero, settingOf_e hO h (show p < dP d by omega), linesOf_e hO h (show p < dP d by omega), settingCost_e hC h2, a]
    exact ih
theorem setCosts_s (hO : OkB d) (hC : CCosts d costs) (h : CPlan d q sg pages P counts fl fp settings sz) (hP : Post (nI (sumN (fun p => sC d (sg p) (cnt d p (sg p))) (dP d)))) : wpX3_settingCosts P counts settings costs Post :=
  ⟨dP d + 1, setCosts_L hO hC h (dP d) 0 (by omega) hP⟩
theorem numberOf_L (hO : OkB d) (hC : CCosts d costs) (hR : CRows d rows) (h : CPlan d q sg pages P counts fl fp settings sz) {what : Nat} (hw : what < 7) (b : Nat) : ∀ (r k : Nat), k + r = q.1 → Post (nI (b + sumN (termP d q (fun p => cnt d p (sg p)) what) q.1)) → wpX3_numberOf_L17 pages P counts fl fp settings sz (nI (dH d)) costs rows (nI what) Post (r + 1) (nI (b + sumN (termP d q (fun p => cnt d p (sg p)) what) k)) (nI k)
  | 0, k, hk, hP => by
    have h1 := h.b480 hO
    have e : k = q.1 := by omega
    subst e
    unfold wpX3_numberOf_L17
    rw [h.1.1]
    simp (disch := omega) only [li0, li1, li2, li3, li4, li5, li6, li7, li8, li9, li10, li11, li12, li13, li16, li20, li24, li30, li32, li34, li40, li41, li48, li57, li59, li60, li97, li122, li255, li555, li700, li999, li100000, li100000000, li1000000000, nI_add, pk_mul, nI_leI, nI_ltI, nI_eq, nI_clamp, sm_sub, vp_in_T, bI_eq0, bI_eq1, true_and, and_true, true_implies, false_implies, not_true_eq_false, not_false_eq_true, Nat.add_zero, Nat.zero_add, Nat.zero_mul, Nat.mul_zero, Nat.le_refl]
    exact hP
  | r + 1, k, hk, hP => by
    have h1 := h.b480 hO
    have a : ¬ q.1 ≤ k := by omega
    have g : k < q.1 := by omega
    have ih := numberOf_L hO hC hR h hw b r (k + 1) (by omega) hP
    unfold wpX3_numberOf_L17 wpX3_numberOf_b106 wpX3_numberOf_b126 wpX3_numberOf_b147 wpX3_numberOf_b177
    have a2 : ¬ pages ≤ nI k := by rw [h.1.1, nI_leI (by omega) (by omega)]; exact a
    refine ⟨fun z => absurd z a2, fun _ => ?_⟩
    have ex : b + sumN (termP d q (fun p => cnt d p (sg p)) what) (k + 1) = b + sumN (termP d q (fun p => cnt d p (sg p)) what) k + termP d q (fun p => cnt d p (sg p)) what k := by
      show b + (_ + _) = _
      omega
    rw [ex] at ih
    simp (disch := omega) only [li0, li1, li2, li3, li4, li5, li6, li7, li8, li9, li10, li11, li12, li13, li16, li20, li24, li30, li32, li34, li40, li41, li48, li57, li59, li60, li97, li122, li255, li555, li700, li999, li100000, li100000000, li1000000000, nI_add, pk_mul, nI_leI, nI_ltI, nI_eq, nI_clamp, sm_sub, vp_in_T, bI_eq0, bI_eq1, true_and, and_true, true_implies, false_implies, not_true_eq_false, not_false_eq_true, Nat.add_zero, Nat.zero_add, Nat.zero_mul, Nat.mul_zero, beginCostP_e hO hC hR h g, endCostP_e hO hC hR h g, isWidowP_e hO h g, isOrphanP_e hO h g, behind_e hO hR h g, missing_e hO h g, size_e hO h g]
    rcases what with _ | _ | _ | _ | _ | _ | _ | what
    · simp [termP] at ih ⊢; exact ih
    · simp [termP] at ih ⊢; exact ih
    · simp only [termP, b2n] at ih ⊢
      cases hh : wdP q (fun p => cnt d p (sg p)) k <;> rw [hh] at ih <;> simp at ih ⊢ <;> exact ih
    · simp only [termP, b2n] at ih ⊢
      cases hh : orP q (fun p => cnt d p (sg p)) k <;> rw [hh] at ih <;> simp at ih ⊢ <;> exact ih
    · simp only [termP, b2n] at ih ⊢
      cases hh : hgP d q k <;> rw [hh] at ih <;> simp at ih ⊢ <;> exact ih
    · simp [termP] at ih ⊢; exact ih
    · simp [termP] at ih ⊢; exact ih
    · omega
theorem numberOf_s (hO : OkB d) (hC : CCosts d costs) (hR : CRows d rows) (h : CPlan d q sg pages P counts fl fp settings sz) {what : Nat} (hw : what < 7) (hP : Post (nI (numP d q sg what))) : wpX3_numberOf pages P counts fl fp settings sz (nI (dH d)) costs rows (nI what) Post := by
  unfold wpX3_numberOf wpX3_numberOf_b13
  unfold numP at hP
  refine ⟨fun e => ⟨q.1 + 1, ?_⟩, fun e => ?_⟩
  · rw [if_neg (fun z => e (by rw [z]; rfl))] at hP
    exact numberOf_L hO hC hR h hw 0 q.1 0 (by omega) hP
  · have e' : what = 0 := (nI_eq (by omega) (by decide)).mp e
    rw [if_pos e'] at hP
    refine setCosts_s hO hC h ?_
    exact ⟨q.1 + 1, numberOf_L hO hC hR h hw _ q.1 0 (by omega) hP⟩
theorem pageWith_L (hO : OkB d) (h : CPlan d q sg pages P counts fl fp settings sz) (hp : p < 1000) (hl : line < 1000) : ∀ (r k : Nat), k + r = q.1 → Post (nI (pgW q p line q.1)) → wpX3_pageWith_L5 pages fl fp (nI p) (nI line) Post (r + 1) (nI (pgW q p line k)) (nI k)
  | 0, k, hk, hP => by
    have h1 := h.b480 hO
    have e : k = q.1 := by omega
    subst e
    unfold wpX3_pageWith_L5
    rw [h.1.1]
    simp (disch := omega) only [li0, li1, li2, li3, li4, li5, li6, li7, li8, li9, li10, li11, li12, li13, li16, li20, li24, li30, li32, li34, li40, li41, li48, li57, li59, li60, li97, li122, li255, li555, li700, li999, li100000, li100000000, li1000000000, nI_add, pk_mul, nI_leI, nI_ltI, nI_eq, nI_clamp, sm_sub, vp_in_T, bI_eq0, bI_eq1, true_and, and_true, true_implies, false_implies, not_true_eq_false, not_false_eq_true, Nat.add_zero, Nat.zero_add, Nat.zero_mul, Nat.mul_zero, Nat.le_refl]
    exact hP
  | r + 1, k, hk, hP => by
    have h1 := h.b480 hO
    have g : k < q.1 := by omega
    have h2 := h.fpn g
    have h3 := h.fl30 g
    have h16 := hO.p16
    have ih := pageWith_L hO h hp hl r (k + 1) (by omega) hP
    unfold wpX3_pageWith_L5 wpX3_pageWith_b44 wpX3_pageWith_b47
    have a2 : ¬ pages ≤ nI k := by rw [h.1.1, nI_leI (by omega) (by omega)]; omega
    refine ⟨fun z => absurd z a2, fun _ => ?_⟩
    simp (disch := omega) only [fPar_e hO h g, fLine_e hO h g, li0, li1, li2, li3, li4, li5, li6, li7, li8, li9, li10, li11, li12, li13, li16, li20, li24, li30, li32, li34, li40, li41, li48, li57, li59, li60, li97, li122, li255, li555, li700, li999, li100000, li100000000, li1000000000, nI_add, pk_mul, nI_leI, nI_ltI, nI_eq, nI_clamp, sm_sub, vp_in_T, bI_eq0, bI_eq1, true_and, and_true, true_implies, false_implies, not_true_eq_false, not_false_eq_true, Nat.add_zero, Nat.zero_add, Nat.zero_mul, Nat.mul_zero]
    have ex : pgW q p line (k + 1) = if q.2.1 k < p ∨ (q.2.1 k = p ∧ q.2.2.1 k ≤ line) then k else pgW q p line k := rfl
    refine ⟨fun c1 => ?_, fun c1 => ⟨fun c2 => ?_, fun c2 => ⟨fun c3 => ?_, fun c3 => ?_⟩⟩⟩
    · rw [ex, if_pos (Or.inl c1)] at ih; exact ih
    · rw [ex, if_neg (by omega)] at ih; exact ih
    · rw [ex, if_neg (by omega)] at ih; exact ih
    · rw [ex, if_pos (by omega)] at ih; exact ih
theorem pageWith_s (hO : OkB d) (h : CPlan d q sg pages P counts fl fp settings sz) (hp : p < 1000) (hl : line < 1000) (hP : Post (nI (pgW q p line q.1))) : wpX3_pageWith pages fl fp (nI p) (nI line) Post :=
  ⟨q.1 + 1, pageWith_L hO h hp hl q.1 0 (by omega) hP⟩
end CPM
