/-! THE REFERENCE'S ANSWERS THAT CHANGE NO BOOK -/
section MRD
variable {d : Nat → Int32} {pages : Int32} {ll : Nat → Int32} {lines CA : Nat → Nat → Int32} {W : (Nat → Nat → Nat → Nat → Int32)} {st fp fl sz bc ec : Nat → Int32} {po : Nat → Nat → Int32} {a1 a2 a3 : Int32} {p : Nat}
theorem told_L {Post : Int32 → Prop} (hO : OkB d) {what : Nat} (hw : what < 13) (hP : Post (stI d what)) : ∀ (r p : Nat), p + r = dP d →
    wpX7_told_L4 d (nI what) Post (r + 1) (if what = 5 then nI (sumN (dN d) p) else nI (sumN (fun p => if dF d p = -1 then 0 else 1) p)) (nI p)
  | 0, p, hp => by
    have h16 := hO.p16
    unfold wpX7_told_L4
    rw [show d (4 : Int32).toNatClampNeg = nI (dP d) from hO.p]
    have a : nI (dP d) ≤ nI p := by rw [nI_leI (by omega) (by omega)]; omega
    refine ⟨vp_in_nI (n := 4) (by decide) (by decide), fun _ => ?_, fun z => absurd a z⟩
    rw [show p = dP d by omega]
    unfold stI at hP
    refine ⟨fun z => ⟨fun y => ?_, fun y => ?_⟩, fun z => ?_⟩
    · have w7 : 7 ≤ what := (nI_leI (by decide) (by omega)).mp y
      rw [if_neg (by omega), if_neg (by omega), if_neg (by omega)] at hP
      rw [li5, li7, nI_add, sm_sub (by omega), nI_clamp (by omega), show 5 + what - 7 = 5 + (what - 7) by omega]
      exact ⟨vp_in_nI (by omega) (by decide), hP⟩
    · have w5 : 5 ≤ what := (nI_leI (by decide) (by omega)).mp z
      have w7 : ¬ 7 ≤ what := fun e => y (nI_le (a := 7) e (by omega))
      by_cases e5 : what = 5
      · rw [if_pos e5] at hP ⊢
        exact hP
      · have e6 : what = 6 := by omega
        rw [if_neg e5] at hP ⊢
        rw [if_pos e6] at hP
        exact hP
    · have w5 : ¬ 5 ≤ what := fun e => z (nI_le (a := 5) e (by omega))
      rw [if_neg (by omega), if_neg (by omega), if_pos (by omega)] at hP
      rw [nI_clamp (by omega)]
      exact ⟨vp_in_nI (by omega) (by decide), hP⟩
  | r + 1, p, hp => by
    have h16 := hO.p16
    have ih := told_L hO hw hP r (p + 1) (by omega)
    unfold wpX7_told_L4 wpX7_told_b44
    rw [show d (4 : Int32).toNatClampNeg = nI (dP d) from hO.p]
    have a : ¬ nI (dP d) ≤ nI p := by rw [nI_leI (by omega) (by omega)]; omega
    refine ⟨vp_in_nI (n := 4) (by decide) (by decide), fun z => absurd z a, fun _ => ⟨fun z => ?_, fun z => ?_⟩⟩
    · have e5 : what ≠ 5 := fun e => z (by rw [e]; rfl)
      rw [if_neg e5] at ih ⊢
      rw [li2, of_e (by omega) (by decide)]
      have ef : d (11 + 34 * p + 2) = dF d p := rfl
      rw [ef]
      have es : sumN (fun p => if dF d p = -1 then 0 else 1) (p + 1) = sumN (fun p => if dF d p = -1 then 0 else 1) p + (if dF d p = -1 then 0 else 1) := rfl
      rw [es] at ih
      refine ⟨fun y => ?_, fun y => ?_⟩
      · rw [if_neg y] at ih
        rw [li1, nI_add, nI_add]
        exact ih
      · rw [if_pos y] at ih
        rw [li0, li1, nI_add, nI_add]
        exact ih
    · have e5 : what = 5 := (nI_eq (b := 5) (by omega) (by decide)).mp z
      rw [if_pos e5] at ih ⊢
      rw [li3, of_e (by omega) (by decide), hO.n (by omega), nI_add, nI_1]
      exact ih
theorem told_s {Post : Int32 → Prop} (hO : OkB d) {what : Nat} (hw : what < 13) (hP : Post (stI d what)) : wpX7_told d (nI what) Post := by
  have := told_L hO hw hP (dP d) 0 (by omega)
  refine ⟨dP d + 1, ?_⟩
  have e : (if what = 5 then nI (sumN (dN d) 0) else nI (sumN (fun p => if dF d p = -1 then 0 else 1) 0)) = (0 : Int32) := by split <;> rfl
  rw [e] at this
  exact this
theorem stateM_s {th : Int32} {Post : Int32 → Int32 → Prop} (hO : OkB d) (h : ∀ w, w < 13 → a1 = nI w → Post (stI d w) 0) (hX : ¬ inR a1 13 → Post 0 1) : wpX7_state th d a1 Post := by
  unfold wpX7_state wpX7_state_b21
  refine inN_s (n := 13) (by decide) (fun w hw e => ?_) (fun hn => ?_)
  · refine ⟨fun _ => ?_, fun z => absurd z (by decide)⟩
    rw [fails_0]
    subst e
    exact ⟨fun _ => told_s hO hw (h w hw rfl), fun z => absurd rfl z⟩
  · refine ⟨fun z => absurd rfl z, fun _ => ?_⟩
    rw [fails_1 (by decide)]
    exact ⟨fun z => absurd z (by decide), fun _ => hX hn⟩
theorem toldPar_s {Post : Int32 → Int32 → (Nat → Int32) → (Nat → Nat → Int32) → (Nat → Nat → Int32) → (Nat → Nat → Nat → Nat → Int32) → (Nat → Int32) → (Nat → Int32) → (Nat → Int32) → (Nat → Int32) → (Nat → Int32) → (Nat → Int32) → (Nat → Nat → Int32) → Prop} (hO : OkB d) (hp : p < dP d) {what : Nat} (hw : what < 8) (h : ∀ pages ll lines CA W st fp fl sz bc ec po, Post (paI d p what) pages ll lines CA W st fp fl sz bc ec po) : wpX7_toldParagraph pages d ll lines CA W st fp fl sz bc ec po (nI p) (nI what) Post := by
  have h16 := hO.p16
  unfold wpX7_toldParagraph
  have eq : ∀ k, k < 8 → (nI what = nI k ↔ what = k) := fun k hk => nI_eq (by omega) (by omega)
  refine ⟨fun z => ?_, fun z => ?_, fun z => ?_, fun z => ?_, fun z => ?_, fun z => ?_, fun z => ?_, fun z => ?_⟩
  · have e := (eq 0 (by decide)).mp z; subst e
    rw [li3, of_e (by omega) (by decide), hO.n hp]; exact h _ _ _ _ _ _ _ _ _ _ _ _
  · have e := (eq 1 (by decide)).mp z; subst e
    exact layLines_s (s := 0) hO hp (by decide) (fun ll _ => h _ _ _ _ _ _ _ _ _ _ _ _)
  · have e := (eq 2 (by decide)).mp z; subst e
    exact layLines_s (s := 1) hO hp (by decide) (fun ll _ => h _ _ _ _ _ _ _ _ _ _ _ _)
  · have e := (eq 3 (by decide)).mp z; subst e
    exact layLines_s (s := 2) hO hp (by decide) (fun ll _ => h _ _ _ _ _ _ _ _ _ _ _ _)
  · have e := (eq 4 (by decide)).mp z; subst e
    rw [li0, of_e (by omega) (by decide), Nat.add_zero, hO.hd hp]; exact h _ _ _ _ _ _ _ _ _ _ _ _
  · have e := (eq 5 (by decide)).mp z; subst e
    rw [li1, of_e (by omega) (by decide), hO.b hp]; exact h _ _ _ _ _ _ _ _ _ _ _ _
  · have e := (eq 6 (by decide)).mp z; subst e
    rw [li2, of_e (by omega) (by decide)]; exact h _ _ _ _ _ _ _ _ _ _ _ _
  · obtain ⟨z0, z1, z2, z3, z4, z5, z6⟩ := z
    have e : what = 7 := by
      have n0 : what ≠ 0 := fun e => z0 ((eq 0 (by decide)).mpr e)
      have n1 : what ≠ 1 := fun e => z1 ((eq 1 (by decide)).mpr e)
      have n2 : what ≠ 2 := fun e => z2 ((eq 2 (by decide)).mpr e)
      have n3 : what ≠ 3 := fun e => z3 ((eq 3 (by decide)).mpr e)
      have n4 : what ≠ 4 := fun e => z4 ((eq 4 (by decide)).mpr e)
      have n5 : what ≠ 5 := fun e => z5 ((eq 5 (by decide)).mpr e)
      have n6 : what ≠ 6 := fun e => z6 ((eq 6 (by decide)).mpr e)
      omega
    subst e
    refine layBestM_s hO (fun pages ll lines CA W st fp fl sz bc ec po _ hA => ⟨vp_in_nI (by omega) (by decide), ?_⟩)
    rw [nI_clamp (by omega), hA.2.1 p hp]
    exact h _ _ _ _ _ _ _ _ _ _ _ _
theorem paragraphM_s {th : Int32} {Post : Int32 → Int32 → Int32 → (Nat → Int32) → (Nat → Nat → Int32) → (Nat → Nat → Int32) → (Nat → Nat → Nat → Nat → Int32) → (Nat → Int32) → (Nat → Int32) → (Nat → Int32) → (Nat → Int32) → (Nat → Int32) → (Nat → Int32) → (Nat → Nat → Int32) → Prop} (hO : OkB d) (h : ∀ p w, p < dP d → a1 = nI p → w < 8 → a2 = nI w → ∀ pages ll lines CA W st fp fl sz bc ec po, Post (paI d p w) 0 pages ll lines CA W st fp fl sz bc ec po) (hX1 : ¬ inR a1 (dP d) → ∀ pages ll lines CA W st fp fl sz bc ec po, Post 0 1 pages ll lines CA W st fp fl sz bc ec po) (hX2 : ∀ p, p < dP d → a1 = nI p → ¬ inR a2 8 → ∀ pages ll lines CA W st fp fl sz bc ec po, Post 0 2 pages ll lines CA W st fp fl sz bc ec po) : wpX7_paragraph th pages d ll lines CA W st fp fl sz bc ec po a1 a2 Post := by
  unfold wpX7_paragraph wpX7_paragraph_b36 wpX7_paragraph_b29
  refine noPar_s hO (fun p hp e => ?_) (fun hn => ?_)
  · subst e
    refine ⟨fun z => absurd rfl z, fun _ => inN_s (n := 8) (by decide) (fun w hw e => ?_) (fun hn => ?_)⟩
    · subst e
      refine ⟨fun _ => ?_, fun z => absurd z (by decide)⟩
      rw [fails_0]
      exact ⟨fun _ => toldPar_s hO hp hw (h p w hp rfl hw rfl), fun z => absurd rfl z⟩
    · refine ⟨fun z => absurd rfl z, fun _ => ?_⟩
      rw [fails_1 (by decide)]
      exact ⟨fun z => absurd z (by decide), fun _ => hX2 p hp rfl hn _ _ _ _ _ _ _ _ _ _ _ _⟩
  · exact ⟨fun _ => hX1 hn _ _ _ _ _ _ _ _ _ _ _ _, fun z => absurd z (by decide)⟩
theorem wordM_s {th : Int32} {Post : Int32 → Int32 → Prop} (hO : OkB d) (h : ∀ p k, p < dP d → a1 = nI p → k < dN d p → a2 = nI k → Post (nI (dV d p k)) 0) (hX1 : ¬ inR a1 (dP d) → Post 0 1) (hX2 : ∀ p, p < dP d → a1 = nI p → ¬ inR a2 (dN d p) → Post 0 2) : wpX7_word th d a1 a2 Post := by
  have h16 := hO.p16
  unfold wpX7_word wpX7_word_b42 wpX7_word_b35
  refine noPar_s hO (fun p hp e => ?_) (fun hn => ?_)
  · subst e
    have h30 := hO.n30 hp
    refine ⟨fun z => absurd rfl z, fun _ => ?_⟩
    rw [li3, of_e (by omega) (by decide), hO.n hp]
    refine inN_s (n := dN d p) (by omega) (fun k hk e => ?_) (fun hn => ?_)
    · subst e
      refine ⟨fun _ => ?_, fun z => absurd z (by decide)⟩
      rw [fails_0]
      refine ⟨fun _ => ?_, fun z => absurd rfl z⟩
      rw [li4, nI_add, of_e (by omega) (by omega), hO.v hp hk]
      exact h p k hp rfl hk rfl
    · refine ⟨fun z => absurd rfl z, fun _ => ?_⟩
      rw [fails_1 (by decide)]
      exact ⟨fun z => absurd z (by decide), fun _ => hX2 p hp rfl hn⟩
  · exact ⟨fun _ => hX1 hn, fun z => absurd z (by decide)⟩
theorem lineLengthM_s {th : Int32} {Post : Int32 → Int32 → (Nat → Int32) → Prop} (hO : OkB d) (h : ∀ p s k, p < dP d → a1 = nI p → s < 3 → a2 = nI s → k < cnt d p s → a3 = nI k → ∀ ll, Post (nI (tln d p s k)) 0 ll) (hX1 : ¬ inR a1 (dP d) → ∀ ll, Post 0 1 ll) (hX2 : ∀ p, p < dP d → a1 = nI p → ¬ inR a2 3 → ∀ ll, Post 0 2 ll) (hX3 : ∀ p s, p < dP d → a1 = nI p → s < 3 → a2 = nI s → ¬ inR a3 (cnt d p s) → ∀ ll, Post 0 3 ll) : wpX7_lineLength th d ll a1 a2 a3 Post := by
  have h16 := hO.p16
  unfold wpX7_lineLength wpX7_lineLength_b28 wpX7_lineLength_b63
  refine noPar_s hO (fun p hp e => ?_) (fun hn => ?_)
  · subst e
    refine ⟨fun z => absurd rfl z, fun _ => inN_s (n := 3) (by decide) (fun s hs e => ?_) (fun hn => ?_)⟩
    · subst e
      have hc := cnt_le hO hp s
      refine ⟨fun _ => ?_, fun z => absurd z (by decide)⟩
      rw [fails_0]
      refine ⟨fun _ => layLines_s hO hp hs (fun ll hll => ?_), fun z => absurd rfl z⟩
      refine inN_s (n := cnt d p s) (by omega) (fun k hk e => ?_) (fun hn => ?_)
      · subst e
        refine ⟨fun _ => ?_, fun z => absurd z (by decide)⟩
        rw [fails_0]
        refine ⟨fun _ => ⟨vp_in_nI (by omega) (by decide), ?_⟩, fun z => absurd rfl z⟩
        rw [nI_clamp (by omega), hll k hk]
        exact h p s k hp rfl hs rfl hk rfl ll
      · refine ⟨fun z => absurd rfl z, fun _ => ?_⟩
        rw [fails_1 (by decide)]
        exact ⟨fun z => absurd z (by decide), fun _ => hX3 p s hp rfl hs rfl hn ll⟩
    · refine ⟨fun z => absurd rfl z, fun _ => ?_⟩
      rw [fails_1 (by decide)]
      exact ⟨fun z => absurd z (by decide), fun _ => hX2 p hp rfl hn ll⟩
  · exact ⟨fun _ => hX1 hn ll, fun z => absurd z (by decide)⟩
theorem planM_s {th : Int32} {Post : Int32 → Int32 → Int32 → (Nat → Int32) → (Nat → Nat → Int32) → (Nat → Nat → Int32) → (Nat → Nat → Nat → Nat → Int32) → (Nat → Int32) → (Nat → Int32) → (Nat → Int32) → (Nat → Int32) → (Nat → Int32) → (Nat → Int32) → (Nat → Nat → Int32) → Prop} (best : Bool) (hO : OkB d) (h : ∀ w, w < 7 → a2 = nI w → ∀ pages ll lines CA W st fp fl sz bc ec po, Post (nI (numP d (plQ d best) (plS d best) w)) 0 pages ll lines CA W st fp fl sz bc ec po) (hX : ¬ inR a2 7 → ∀ pages ll lines CA W st fp fl sz bc ec po, Post 0 1 pages ll lines CA W st fp fl sz bc ec po) : wpX7_plan th pages d ll lines CA W st fp fl sz bc ec po (bI best) a2 Post := by
  unfold wpX7_plan wpX7_plan_b21
  refine inN_s (n := 7) (by decide) (fun w hw e => ?_) (fun hn => ?_)
  · subst e
    refine ⟨fun _ => ?_, fun z => absurd z (by decide)⟩
    rw [fails_0]
    refine ⟨fun _ => layM_s best hO (fun pages ll lines CA W st fp fl sz bc ec po hA => ?_), fun z => absurd rfl z⟩
    exact toldPlan_s hO hA (LtC_pl best) hw (h w hw rfl _ _ _ _ _ _ _ _ _ _ _ _)
  · refine ⟨fun z => absurd rfl z, fun _ => ?_⟩
    rw [fails_1 (by decide)]
    exact ⟨fun z => absurd z (by decide), fun _ => hX hn _ _ _ _ _ _ _ _ _ _ _ _⟩
theorem pageM_s {th : Int32} {Post : Int32 → Int32 → Int32 → (Nat → Int32) → (Nat → Nat → Int32) → (Nat → Nat → Int32) → (Nat → Nat → Nat → Nat → Int32) → (Nat → Int32) → (Nat → Int32) → (Nat → Int32) → (Nat → Int32) → (Nat → Int32) → (Nat → Int32) → (Nat → Nat → Int32) → Prop} (best : Bool) (hO : OkB d) (h : ∀ k w, k < (plQ d best).1 → a2 = nI k → w < 5 → a3 = nI w → ∀ pages ll lines CA W st fp fl sz bc ec po, Post (nI (pgN d (plQ d best) (fun p => cnt d p (plS d best p)) k w)) 0 pages ll lines CA W st fp fl sz bc ec po) (hX1 : ¬ inR a2 (plQ d best).1 → ∀ pages ll lines CA W st fp fl sz bc ec po, Post 0 1 pages ll lines CA W st fp fl sz bc ec po) (hX2 : ∀ k, k < (plQ d best).1 → a2 = nI k → ¬ inR a3 5 → ∀ pages ll lines CA W st fp fl sz bc ec po, Post 0 2 pages ll lines CA W st fp fl sz bc ec po) : wpX7_page th pages d ll lines CA W st fp fl sz bc ec po (bI best) a2 a3 Post := by
  unfold wpX7_page wpX7_page_b30 wpX7_page_b52 wpX7_page_b59
  refine layM_s best hO (fun pages ll lines CA W st fp fl sz bc ec po hA => ?_)
  have hb := hA.b480 hO
  have e := hA.pg
  subst e
  refine inN_s (by omega) (fun k hk e => ?_) (fun hn => ?_)
  · subst e
    refine ⟨fun _ => ?_, fun z => absurd z (by decide)⟩
    rw [fails_0]
    refine ⟨fun z => absurd rfl z, fun _ => inN_s (n := 5) (by decide) (fun w hw e => ?_) (fun hn => ?_)⟩
    · subst e
      refine ⟨fun _ => ?_, fun z => absurd z (by decide)⟩
      rw [fails_0]
      exact ⟨fun _ => toldPage_s hO hA hk hw (h k w hk rfl hw rfl _ _ _ _ _ _ _ _ _ _ _ _), fun z => absurd rfl z⟩
    · refine ⟨fun z => absurd rfl z, fun _ => ?_⟩
      rw [fails_1 (by decide)]
      exact ⟨fun z => absurd z (by decide), fun _ => hX2 k hk rfl hn _ _ _ _ _ _ _ _ _ _ _ _⟩
  · refine ⟨fun z => absurd rfl z, fun _ => ?_⟩
    rw [fails_1 (by decide)]
    exact ⟨fun _ => hX1 hn _ _ _ _ _ _ _ _ _ _ _ _, fun z => absurd z (by decide)⟩
theorem pageOfM_s {th : Int32} {Post : Int32 → Int32 → Int32 → (Nat → Int32) → (Nat → Nat → Int32) → (Nat → Nat → Int32) → (Nat → Nat → Nat → Nat → Int32) → (Nat → Int32) → (Nat → Int32) → (Nat → Int32) → (Nat → Int32) → (Nat → Int32) → (Nat → Int32) → (Nat → Nat → Int32) → Prop} (best : Bool) (hO : OkB d) (h : ∀ p l, p < dP d → a2 = nI p → l < cnt d p (plS d best p) → a3 = nI l → ∀ pages ll lines CA W st fp fl sz bc ec po, Post (nI (pgW (plQ d best) p l (plQ d best).1)) 0 pages ll lines CA W st fp fl sz bc ec po) (hX1 : ¬ inR a2 (dP d) → ∀ pages ll lines CA W st fp fl sz bc ec po, Post 0 1 pages ll lines CA W st fp fl sz bc ec po) (hX2 : ∀ p, p < dP d → a2 = nI p → ¬ inR a3 (cnt d p (plS d best p)) → ∀ pages ll lines CA W st fp fl sz bc ec po, Post 0 2 pages ll lines CA W st fp fl sz bc ec po) : wpX7_pageOf th pages d ll lines CA W st fp fl sz bc ec po (bI best) a2 a3 Post := by
  have h16 := hO.p16
  unfold wpX7_pageOf wpX7_pageOf_b49
  refine noPar_s hO (fun p hp e => ?_) (fun hn => ?_)
  · subst e
    refine ⟨fun _ => layM_s best hO (fun pages ll lines CA W st fp fl sz bc ec po hA => ?_), fun z => absurd rfl z⟩
    have hs := hA.2.2.1 p hp
    have hc := cnt_le hO hp (plS d best p)
    rw [nI_clamp (show p < 2 ^ 31 by omega), hA.2.1 p hp, nI_clamp (show plS d best p < 2 ^ 31 by omega), hA.1 p hp _ hs]
    refine ⟨vp_in_nI (by omega) (by decide), vp_in_nI (by omega) (by decide), vp_in_nI (by omega) (by decide), ?_⟩
    refine inN_s (by omega) (fun l hl e => ?_) (fun hn => ?_)
    · subst e
      refine ⟨fun _ => ?_, fun z => absurd z (by decide)⟩
      rw [fails_0]
      refine ⟨fun _ => ⟨vp_in_nI (by omega) (by decide), vp_in_nI (by omega) (by decide), ?_⟩, fun z => absurd rfl z⟩
      rw [nI_clamp (show l < 2 ^ 31 by omega), hA.2.2.2.2.2.2 p l (Or.inl ⟨hp, hl⟩)]
      exact h p l hp rfl hl rfl _ _ _ _ _ _ _ _ _ _ _ _
    · refine ⟨fun z => absurd rfl z, fun _ => ?_⟩
      rw [fails_1 (by decide)]
      exact ⟨fun z => absurd z (by decide), fun _ => hX2 p hp rfl hn _ _ _ _ _ _ _ _ _ _ _ _⟩
  · exact ⟨fun z => absurd z (by decide), fun _ => hX1 hn _ _ _ _ _ _ _ _ _ _ _ _⟩
theorem savedM_s {th : Int32} {Post : Int32 → Int32 → Int32 → (Nat → Int32) → (Nat → Nat → Int32) → (Nat → Nat → Int32) → (Nat → Nat → Nat → Nat → Int32) → (Nat → Int32) → (Nat → Int32) → (Nat → Int32) → (Nat → Int32) → (Nat → Int32) → (Nat → Int32) → (Nat → Nat → Int32) → Prop} (hO : OkB d) (h : ∀ pages ll lines CA W st fp fl sz bc ec po, Post (nI (numP d (lyP d sg0 (dP d)) sg0 0) - nI (numP d (lyB d (dP d)) (sgB d) 0)) 0 pages ll lines CA W st fp fl sz bc ec po) : wpX7_saved th pages d ll lines CA W st fp fl sz bc ec po Post := by
  unfold wpX7_saved wpX7_costs
  refine layPlainM_s hO (fun pages ll lines st fp fl sz bc ec po hA => ⟨_, costsM_s hO hA ?_ (dP d) 0 (by omega)⟩)
  refine layCosts_s hO (fun ll lines CA W hM hCW => ⟨vp_in_nI (n := 0) (by decide) (by decide), vp_in_nI (n := 0) (by decide) (by decide), ?_⟩)
  have e := hCW.1 0 (Nat.le_refl _) (Nat.zero_le _) 0 (Nat.zero_le _)
  rw [Nat.sub_zero, ← best_numP hO] at e
  rw [show (0 : Int32).toNatClampNeg = 0 from rfl, e]
  exact h _ _ _ _ _ _ _ _ _ _ _ _
end MRD
