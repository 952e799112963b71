/-! THE REFERENCE: laying a line -/
theorem pgW_congr {q q' : Pl} {p l : Nat} : ∀ n, (∀ k, k < n → q'.2.1 k = q.2.1 k ∧ q'.2.2.1 k = q.2.2.1 k) → pgW q' p l n = pgW q p l n
  | 0, _ => rfl
  | n + 1, h => by
    have ih := pgW_congr (q := q) (q' := q') (p := p) (l := l) n (fun k hk => h k (by omega))
    have hn := h n (Nat.lt_succ_self n)
    show (if q'.2.1 n < p ∨ (q'.2.1 n = p ∧ q'.2.2.1 n ≤ l) then n else pgW q' p l n) = (if q.2.1 n < p ∨ (q.2.1 n = p ∧ q.2.2.1 n ≤ l) then n else pgW q p l n)
    rw [hn.1, hn.2, ih]
theorem pgW_top {q : Pl} {p l n : Nat} (h : q.2.1 n < p ∨ (q.2.1 n = p ∧ q.2.2.1 n ≤ l)) : pgW q p l (n + 1) = n := if_pos h
theorem pgW_skip {q : Pl} {p l n : Nat} (h : ¬ (q.2.1 n < p ∨ (q.2.1 n = p ∧ q.2.2.1 n ≤ l))) : pgW q p l (n + 1) = pgW q p l n := if_neg h
/-- what is laid ahead of line 'line' of paragraph p -/
def Ld (cf : Nat → Nat) (p line p' l' : Nat) : Prop := (p' < p ∧ l' < cf p') ∨ (p' = p ∧ l' < line)
/-- every page begins ahead of it -/
def FLt (q : Pl) (p line : Nat) : Prop := ∀ k, k < q.1 → q.2.1 k < p ∨ (q.2.1 k = p ∧ q.2.2.1 k < line)
/-- the reference's plan is q -/
def MPl (d : Nat → Int32) (q : Pl) (cf : Nat → Nat) (L : Nat → Nat → Prop) (pages : Int32) (fp fl sz bc ec : Nat → Int32) (po : Nat → Nat → Int32) : Prop :=
  pages = nI q.1 ∧ (∀ k, k < q.1 → fp k = nI (q.2.1 k) ∧ fl k = nI (q.2.2.1 k) ∧ sz k = nI (q.2.2.2 k) ∧ bc k = nI (pbC d q cf k) ∧ ec k = nI (peC d q k)) ∧ ∀ p l, L p l → po p l = nI (pgW q p l q.1)
theorem addL_new {q : Pl} {p line : Nat} {e : Bool} (h : e = true ∨ q.1 = 0) : addL q p line e = (q.1 + 1, upN q.2.1 q.1 p, upN q.2.2.1 q.1 line, upN q.2.2.2 q.1 1) := by
  unfold addL
  rw [if_pos (by rcases h with h | h <;> simp [h])]
theorem addL_old {q : Pl} {p line : Nat} {e : Bool} (h : ¬ (e = true ∨ q.1 = 0)) : addL q p line e = (q.1, q.2.1, q.2.2.1, upN q.2.2.2 (q.1 - 1) (q.2.2.2 (q.1 - 1) + 1)) := by
  unfold addL
  rw [if_neg (by simpa using h)]
theorem FLt_addL {q : Pl} {p line : Nat} {e : Bool} (h : FLt q p line) : FLt (addL q p line e) p (line + 1) := by
  by_cases c : e = true ∨ q.1 = 0
  · rw [addL_new c]
    intro k hk
    have hk : k < q.1 + 1 := hk
    show upN q.2.1 q.1 p k < p ∨ (upN q.2.1 q.1 p k = p ∧ upN q.2.2.1 q.1 line k < line + 1)
    by_cases g : k = q.1
    · subst g; rw [upN_s, upN_s]; omega
    · rw [upN_n g, upN_n g]; have := h k (by omega); omega
  · rw [addL_old c]
    intro k hk
    have := h k hk
    show q.2.1 k < p ∨ (q.2.1 k = p ∧ q.2.2.1 k < line + 1)
    omega
section MPN
variable {d : Nat → Int32} {q : Pl} {p line : Nat} {lines : Nat → Nat → Int32} {sg : Nat → Nat} {setting fp fl sz bc ec : Nat → Int32} {po : Nat → Nat → Int32} {pages : Int32}
theorem onPage_m {Post : Int32 → Prop} {cf : Nat → Nat} {L : Nat → Nat → Prop} (hb : q.1 ≤ 480) (hA : MPl d q cf L pages fp fl sz bc ec po) : wpX7_onPage pages sz Post = Post (nI (onP q)) := by
  obtain ⟨rfl, hk, -⟩ := hA
  unfold wpX7_onPage onP
  by_cases e : q.1 = 0
  · rw [if_pos e, e]
    simp only [show nI 0 = (0 : Int32) from rfl, not_true_eq_false, false_implies, true_implies, true_and]
  · have e2 : ¬ nI q.1 = 0 := nI_ne0 (by omega) (by omega)
    rw [if_neg e, li1, sm_sub (by omega), nI_clamp (by omega), (hk (q.1 - 1) (by omega)).2.2.1]
    simp (disch := omega) only [e2, not_false_eq_true, true_implies, false_implies, and_true, vp_in_T, true_and]
theorem laysLine_s {e : Bool} {Post : Int32 → (Nat → Int32) → (Nat → Int32) → (Nat → Int32) → (Nat → Int32) → (Nat → Int32) → (Nat → Nat → Int32) → Prop} (hO : OkB d) (hM : MLn d lines) (hp : p < dP d) (hs : sg p < 3) (hl : line < cnt d p (sg p)) (hset : setting p = nI (sg p)) (hin : PlIn d q (p + 1)) (hb : q.1 < 480) (he : e = true → q.1 ≠ 0) (hF : FLt q p line) (hA : MPl d q (fun p => cnt d p (sg p)) (Ld (fun p => cnt d p (sg p)) p line) pages fp fl sz bc ec po)
    (h : ∀ pages fp fl sz bc ec po, MPl d (addL q p line e) (fun p => cnt d p (sg p)) (Ld (fun p => cnt d p (sg p)) p (line + 1)) pages fp fl sz bc ec po → Post pages fp fl sz bc ec po) :
    wpX7_laysLine pages d lines setting fp fl sz bc ec po (nI p) (nI line) (bI e) Post := by
  have h16 := hO.p16
  have h30 := cnt_le hO hp (sg p)
  obtain ⟨rfl, hk, hpo⟩ := hA
  by_cases hc : e = true ∨ q.1 = 0
  · -- a page begins
    have ea := addL_new (p := p) (line := line) hc
    have new : ∀ ec' : Nat → Int32, (∀ k, k < q.1 → k + 1 = q.1 → ec' k = nI (eC d (sta d p line) (q.2.2.2 k))) → (∀ k, k + 1 < q.1 → ec' k = ec k) → wpX7_laysLine_b43 d lines setting (nI p) (nI line) (bI e) Post (nI q.1) fp fl sz bc ec' po := by
      intro ec' h1 h2
      unfold wpX7_laysLine_b43 wpX7_laysLine_b111 wpX7_laysLine_b132
      have fin : ∀ v, v = nI (if q.1 = 0 then 0 else bC d p line (cnt d p (sg p))) → vp_in (nI q.1) 480 ∧ vp_in (nI q.1) 480 ∧ vp_in ((nI q.1 + 1) - 1) 480 ∧ vp_in ((nI q.1 + 1) - 1) 480 ∧ vp_in (nI p) 16 ∧ vp_in (nI line) 30 ∧ Post (nI q.1 + 1) (upd fp (nI q.1).toNatClampNeg (nI p)) (upd fl (nI q.1).toNatClampNeg (nI line)) (upd (upd sz (nI q.1).toNatClampNeg 0) ((nI q.1 + 1) - 1).toNatClampNeg (upd sz (nI q.1).toNatClampNeg 0 ((nI q.1 + 1) - 1).toNatClampNeg + 1)) (upd bc (nI q.1).toNatClampNeg v) (upd ec' (nI q.1).toNatClampNeg 0) (updR po (nI p).toNatClampNeg (nI line).toNatClampNeg ((nI q.1 + 1) - 1)) := by
        intro v hv
        rw [nI_1, li1, sm_sub (by omega), Nat.add_sub_cancel, nI_clamp (by omega), nI_clamp (by omega), nI_clamp (by omega)]
        refine ⟨vp_in_nI (by omega) (by decide), vp_in_nI (by omega) (by decide), vp_in_nI (by omega) (by decide), vp_in_nI (by omega) (by decide), vp_in_nI (by omega) (by decide), vp_in_nI (by omega) (by decide), ?_⟩
        refine h _ _ _ _ _ _ _ ?_
        rw [ea]
        refine ⟨rfl, fun k hkk => ?_, fun p' l' hL => ?_⟩
        · have hkk : k < q.1 + 1 := hkk
          by_cases g : k = q.1
          · subst g
            refine ⟨?_, ?_, ?_, ?_, ?_⟩
            · rw [pk_us]; exact congrArg nI upN_s.symm
            · rw [pk_us]; exact congrArg nI upN_s.symm
            · rw [pk_us, pk_us]; exact congrArg nI upN_s.symm
            · rw [pk_us, hv]
              refine congrArg nI ?_
              unfold pbC
              show _ = if q.1 = 0 then 0 else bC d (upN q.2.1 q.1 p q.1) (upN q.2.2.1 q.1 line q.1) (cnt d (upN q.2.1 q.1 p q.1) (sg (upN q.2.1 q.1 p q.1)))
              rw [upN_s, upN_s]
            · rw [pk_us]
              refine congrArg nI ?_
              show 0 = if q.1 = q.1 + 1 - 1 then 0 else _
              rw [if_pos (by omega)]
          · obtain ⟨a1, a2, a3, a4, a5⟩ := hk k (by omega)
            refine ⟨?_, ?_, ?_, ?_, ?_⟩
            · rw [pk_un g, a1]; exact congrArg nI (upN_n g).symm
            · rw [pk_un g, a2]; exact congrArg nI (upN_n g).symm
            · rw [pk_un g, pk_un g, a3]; exact congrArg nI (upN_n g).symm
            · rw [pk_un g, a4]
              refine congrArg nI ?_
              unfold pbC
              show _ = if k = 0 then 0 else bC d (upN q.2.1 q.1 p k) (upN q.2.2.1 q.1 line k) (cnt d (upN q.2.1 q.1 p k) (sg (upN q.2.1 q.1 p k)))
              rw [upN_n g, upN_n g]
            · rw [pk_un g]
              have epe : peC d (q.1 + 1, upN q.2.1 q.1 p, upN q.2.2.1 q.1 line, upN q.2.2.2 q.1 1) k = eC d (sta d (upN q.2.1 q.1 p (k + 1)) (upN q.2.2.1 q.1 line (k + 1))) (q.2.2.2 k) := by
                show (if k = q.1 + 1 - 1 then 0 else eC d (sta d (upN q.2.1 q.1 p (k + 1)) (upN q.2.2.1 q.1 line (k + 1))) (upN q.2.2.2 q.1 1 k)) = _
                rw [if_neg (by omega), upN_n g]
              rw [epe]
              by_cases g2 : k + 1 = q.1
              · rw [h1 k (by omega) g2, g2, upN_s, upN_s]
              · rw [h2 k (by omega), a5, upN_n g2, upN_n g2]
                refine congrArg nI ?_
                unfold peC
                rw [if_neg (by omega)]
        · show updR po p line (nI q.1) p' l' = nI (pgW (q.1 + 1, upN q.2.1 q.1 p, upN q.2.2.1 q.1 line, upN q.2.2.2 q.1 1) p' l' (q.1 + 1))
          have hsame : pgW (q.1 + 1, upN q.2.1 q.1 p, upN q.2.2.1 q.1 line, upN q.2.2.2 q.1 1) p' l' q.1 = pgW q p' l' q.1 := pgW_congr q.1 (fun k hk => ⟨upN_n (by omega), upN_n (by omega)⟩)
          have elast1 : upN q.2.1 q.1 p q.1 = p := upN_s
          have elast2 : upN q.2.2.1 q.1 line q.1 = line := upN_s
          unfold updR
          by_cases g : p' = p ∧ l' = line
          · rw [if_pos g]
            refine congrArg nI (Eq.symm (pgW_top ?_))
            show upN q.2.1 q.1 p q.1 < p' ∨ (upN q.2.1 q.1 p q.1 = p' ∧ upN q.2.2.1 q.1 line q.1 ≤ l')
            rw [elast1, elast2]; omega
          · rw [if_neg g, pgW_skip (by show ¬ (upN q.2.1 q.1 p q.1 < p' ∨ (upN q.2.1 q.1 p q.1 = p' ∧ upN q.2.2.1 q.1 line q.1 ≤ l')); rw [elast1, elast2]; unfold Ld at hL; omega), hsame]
            exact hpo p' l' (by unfold Ld at hL ⊢; omega)
      refine ⟨vp_in_nI (by omega) (by decide), vp_in_nI (by omega) (by decide), vp_in_nI (by omega) (by decide), fun z => ?_, fun z => ?_⟩
      · have hq : q.1 ≠ 0 := fun y => z (by rw [y]; rfl)
        rw [nI_clamp (show p < 2 ^ 31 by omega), hset, nI_clamp (by omega), hM p hp _ hs]
        refine ⟨vp_in_nI (by omega) (by decide), vp_in_nI (by omega) (by decide), vp_in_nI (by omega) (by decide), ?_⟩
        rw [beginCost_m hO hp hl (by omega)]
        have := fin (nI (bC d p line (cnt d p (sg p)))) (by rw [if_neg hq])
        rw [nI_clamp (show p < 2 ^ 31 by omega)] at this
        exact this
      · have hq : q.1 = 0 := (nI_eq (b := 0) (by omega) (by decide)).mp z
        exact fin 0 (by rw [if_pos hq]; rfl)
    unfold wpX7_laysLine wpX7_laysLine_b32
    cases e with
    | true =>
      have hq := he rfl
      have hsz := (hin (q.1 - 1) (by omega)).2.2.2
      refine ⟨fun z => absurd z (by decide), fun _ => ?_⟩
      rw [li1, sm_sub (by omega), nI_clamp (by omega), (hk (q.1 - 1) (by omega)).2.2.1, endCost_m hO hp (by omega) hsz]
      refine ⟨vp_in_nI (by omega) (by decide), vp_in_nI (by omega) (by decide), fun _ => ?_, fun z => absurd z (by decide)⟩
      exact new _ (fun k h1 h2 => by rw [show k = q.1 - 1 by omega, pk_us]) (fun k h1 => pk_un (by omega))
    | false =>
      have hq : q.1 = 0 := hc.elim (fun z => by cases z) id
      refine ⟨fun _ => ⟨fun z => absurd rfl z, fun _ => ⟨fun z => absurd (by rw [hq]; rfl) z, fun _ => ?_⟩⟩, fun z => absurd rfl z⟩
      exact new ec (fun k h1 => by omega) (fun k _ => rfl)
  · -- the page goes on
    have h1 : e = false := by cases e <;> simp_all
    have h2 : q.1 ≠ 0 := fun z => hc (Or.inr z)
    have ea := addL_old (p := p) (line := line) hc
    subst h1
    have h3 : ¬ nI q.1 = 0 := nI_ne0 (by omega) (by omega)
    unfold wpX7_laysLine wpX7_laysLine_b32 wpX7_laysLine_b132
    refine ⟨fun _ => ⟨fun z => absurd rfl z, fun _ => ⟨fun _ => ?_, fun z => absurd z h3⟩⟩, fun z => absurd rfl z⟩
    rw [li1, sm_sub (by omega), nI_clamp (show q.1 - 1 < 2 ^ 31 by omega), nI_clamp (show p < 2 ^ 31 by omega), nI_clamp (show line < 2 ^ 31 by omega), (hk (q.1 - 1) (by omega)).2.2.1, nI_add]
    refine ⟨vp_in_nI (by omega) (by decide), vp_in_nI (by omega) (by decide), vp_in_nI (by omega) (by decide), vp_in_nI (by omega) (by decide), ?_⟩
    refine h _ _ _ _ _ _ _ ?_
    rw [ea]
    refine ⟨rfl, fun k hkk => ?_, fun p' l' hL => ?_⟩
    · have hkk : k < q.1 := hkk
      obtain ⟨a1, a2, a3, a4, a5⟩ := hk k hkk
      refine ⟨a1, a2, ?_, a4, ?_⟩
      · by_cases g : k = q.1 - 1
        · subst g; rw [pk_us]; exact congrArg nI upN_s.symm
        · rw [pk_un g, a3]; exact congrArg nI (upN_n g).symm
      · rw [a5]
        refine congrArg nI ?_
        show peC d q k = if k = q.1 - 1 then 0 else eC d (sta d (q.2.1 (k + 1)) (q.2.2.1 (k + 1))) (upN q.2.2.2 (q.1 - 1) (q.2.2.2 (q.1 - 1) + 1) k)
        unfold peC
        by_cases g : k = q.1 - 1
        · rw [if_pos g, if_pos g]
        · rw [if_neg g, if_neg g, upN_n g]
    · show updR po p line (nI (q.1 - 1)) p' l' = nI (pgW (q.1, q.2.1, q.2.2.1, upN q.2.2.2 (q.1 - 1) (q.2.2.2 (q.1 - 1) + 1)) p' l' q.1)
      have hsame : pgW (q.1, q.2.1, q.2.2.1, upN q.2.2.2 (q.1 - 1) (q.2.2.2 (q.1 - 1) + 1)) p' l' q.1 = pgW q p' l' q.1 := pgW_congr q.1 (fun k hk => ⟨rfl, rfl⟩)
      rw [hsame]
      unfold updR
      by_cases g : p' = p ∧ l' = line
      · rw [if_pos g]
        refine congrArg nI ?_
        have hlast := hF (q.1 - 1) (by omega)
        have := pgW_top (q := q) (p := p') (l := l') (n := q.1 - 1) (by omega)
        rw [show q.1 - 1 + 1 = q.1 by omega] at this
        exact this.symm
      · rw [if_neg g]
        exact hpo p' l' (by unfold Ld at hL ⊢; omega)
end MPN
