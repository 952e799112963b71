/-! THE CLASS'S ANSWERS THAT CHANGE NO BOOK -/
/-- an int names one of n things -/
def inR (x : Int32) (n : Nat) : Prop := ∃ i, i < n ∧ x = nI i
theorem inR_cases (x : Int32) (n : Nat) (hn : n < 2 ^ 31) : (∃ i, i < n ∧ x = nI i) ∨ ((x < 0 ∨ ∃ i, n ≤ i ∧ i < 2 ^ 31 ∧ x = nI i) ∧ ¬ inR x n) := by
  rcases i_cases x with h | ⟨i, hi, rfl⟩
  · refine Or.inr ⟨Or.inl h, ?_⟩
    rintro ⟨j, hj, rfl⟩
    exact absurd h (nI_pos (by omega))
  · rcases Nat.lt_or_ge i n with g | g
    · exact Or.inl ⟨i, g, rfl⟩
    · refine Or.inr ⟨Or.inr ⟨i, g, hi, rfl⟩, ?_⟩
      rintro ⟨j, hj, e⟩
      have := (nI_eq hi (by omega)).mp e
      omega
theorem reqPar_s {P : Nat} {a1 : Int32} {Post : Prop} {PostX : String → Prop} (hP : P < 2 ^ 31) (h : inR a1 P → Post) (hX : ¬ inR a1 P → PostX "java/lang/IndexOutOfBoundsException") : wpX6_requireParagraph (nI P) a1 Post PostX := by
  unfold wpX6_requireParagraph wpX6_requireParagraph_b15
  rcases inR_cases a1 P hP with ⟨i, hi, rfl⟩ | ⟨hh, hn⟩
  · exact ⟨fun z => absurd z (nI_pos (by omega)), fun _ => ⟨fun _ => h ⟨i, hi, rfl⟩, fun z => absurd (nI_lt hi hP) z⟩⟩
  · rcases hh with hh | ⟨i, hi, hi2, rfl⟩
    · exact ⟨fun _ => hX hn, fun z => absurd hh z⟩
    · exact ⟨fun _ => hX hn, fun _ => ⟨fun z => absurd z (nI_nlt hi hi2), fun _ => hX hn⟩⟩
theorem reqPage_s {P : Nat} {a1 : Int32} {Post : Prop} {PostX : String → Prop} (hP : P < 2 ^ 31) (h : inR a1 P → Post) (hX : ¬ inR a1 P → PostX "java/lang/IndexOutOfBoundsException") : wpX6_requirePage (nI P) a1 Post PostX := by
  unfold wpX6_requirePage wpX6_requirePage_b12
  rcases inR_cases a1 P hP with ⟨i, hi, rfl⟩ | ⟨hh, hn⟩
  · exact ⟨fun z => absurd z (nI_pos (by omega)), fun _ => ⟨fun _ => h ⟨i, hi, rfl⟩, fun z => absurd (nI_lt hi hP) z⟩⟩
  · rcases hh with hh | ⟨i, hi, hi2, rfl⟩
    · exact ⟨fun _ => hX hn, fun z => absurd hh z⟩
    · exact ⟨fun _ => hX hn, fun _ => ⟨fun z => absurd z (nI_nlt hi hi2), fun _ => hX hn⟩⟩
theorem reqWhat_s {P : Nat} {a1 : Int32} {Post : Prop} {PostX : String → Prop} (hP : P < 2 ^ 31) (h : inR a1 P → Post) (hX : ¬ inR a1 P → PostX "java/lang/IllegalArgumentException") : wpX6_requireWhat a1 (nI P) Post PostX := by
  unfold wpX6_requireWhat wpX6_requireWhat_b9
  rcases inR_cases a1 P hP with ⟨i, hi, rfl⟩ | ⟨hh, hn⟩
  · exact ⟨fun z => absurd z (nI_pos (by omega)), fun _ => ⟨fun _ => h ⟨i, hi, rfl⟩, fun z => absurd (nI_lt hi hP) z⟩⟩
  · rcases hh with hh | ⟨i, hi, hi2, rfl⟩
    · exact ⟨fun _ => hX hn, fun z => absurd hh z⟩
    · exact ⟨fun _ => hX hn, fun _ => ⟨fun z => absurd z (nI_nlt hi hi2), fun _ => hX hn⟩⟩
/-- both plans that are kept -/
abbrev KB (d : Nat → Int32) (iBF b1 b2 : Int32) (b3 b4 b5 b6 b7 : Nat → Int32) : Prop := CKeep d (lyB d (dP d)) (sgB d) iBF b1 b2 b3 b4 b5 b6 b7
abbrev KP (d : Nat → Int32) (iPF c1 c2 : Int32) (c3 c4 c5 c6 c7 : Nat → Int32) : Prop := CKeep d (lyP d sg0 (dP d)) sg0 iPF c1 c2 c3 c4 c5 c6 c7
section CRD
variable {d : Nat → Int32} {rows costs counts taken : Nat → Int32} {iBF b1 b2 : Int32} {b3 b4 b5 b6 b7 : Nat → Int32} {iPF c1 c2 : Int32} {c3 c4 c5 c6 c7 : Nat → Int32} {k1 k2 k3 k4 : Nat → Int32} {a1 a2 a3 : Int32}
theorem state_s {Post : Int32 → Prop} {PostX : String → Prop} (hO : OkB d) (hC : CCosts d costs) (hR : CRows d rows) (h : ∀ w, w < 13 → a1 = nI w → Post (stI d w)) (hX : ¬ inR a1 13 → PostX "java/lang/IllegalArgumentException") : wpX6_state (nI (dW d)) (nI (dH d)) (nI (dS d)) (nI (dL d)) (nI (dP d)) costs rows a1 Post PostX := by
  unfold wpX6_state
  refine reqWhat_s (P := 13) (by decide) ?_ hX
  rintro ⟨w, hw, rfl⟩
  exact numberOf_b hO hC hR hw (h w hw rfl)
theorem word_s {Post : Int32 → Prop} {PostX : String → Prop} (hO : OkB d) (hR : CRows d rows) (h : ∀ p k, p < dP d → a1 = nI p → k < dN d p → a2 = nI k → Post (nI (dV d p k))) (hX1 : ¬ inR a1 (dP d) → PostX "java/lang/IndexOutOfBoundsException") (hX2 : ∀ p, p < dP d → a1 = nI p → ¬ inR a2 (dN d p) → PostX "java/util/NoSuchElementException") : wpX6_word (nI (dP d)) rows a1 a2 Post PostX := by
  have h16 := hO.p16
  unfold wpX6_word wpX6_word_b21
  refine reqPar_s (by omega) ?_ hX1
  rintro ⟨p, hp, rfl⟩
  have h30 := hO.n30 hp
  rw [wordsOf_e hO hR hp]
  rcases inR_cases a2 (dN d p) (by omega) with ⟨k, hk, rfl⟩ | ⟨hh, hn⟩
  · refine ⟨fun z => absurd z (nI_pos (by omega)), fun _ => ⟨fun _ => ?_, fun z => absurd (nI_lt hk (by omega)) z⟩⟩
    rw [wordAt_e hO hR hp hk]
    exact h p k hp rfl hk rfl
  · rcases hh with hh | ⟨i, hi, hi2, rfl⟩
    · exact ⟨fun _ => hX2 p hp rfl hn, fun z => absurd hh z⟩
    · exact ⟨fun _ => hX2 p hp rfl hn, fun _ => ⟨fun z => absurd z (nI_nlt hi hi2), fun _ => hX2 p hp rfl hn⟩⟩
theorem lineLength_s {Post : Int32 → Prop} {PostX : String → Prop} (hO : OkB d) (hL : CL d counts taken) (h : ∀ p s k, p < dP d → a1 = nI p → s < 3 → a2 = nI s → k < cnt d p s → a3 = nI k → Post (nI (tln d p s k))) (hX1 : ¬ inR a1 (dP d) → PostX "java/lang/IndexOutOfBoundsException") (hX2 : ∀ p, p < dP d → a1 = nI p → ¬ inR a2 3 → PostX "java/lang/IllegalArgumentException") (hX3 : ∀ p s, p < dP d → a1 = nI p → s < 3 → a2 = nI s → ¬ inR a3 (cnt d p s) → PostX "java/util/NoSuchElementException") : wpX6_lineLength (nI (dP d)) counts taken a1 a2 a3 Post PostX := by
  have h16 := hO.p16
  unfold wpX6_lineLength wpX6_lineLength_b14 wpX6_lineLength_b41
  refine reqPar_s (by omega) ?_ hX1
  rintro ⟨p, hp, rfl⟩
  rcases inR_cases a2 3 (by decide) with ⟨s, hs, rfl⟩ | ⟨hh, hn⟩
  · have hc := cnt_le hO hp s
    refine ⟨fun z => absurd z (nI_pos (by omega)), fun _ => ⟨fun _ => ?_, fun z => absurd (nI_le (b := 2) (by omega) (by decide)) z⟩⟩
    rw [countOf_e hO hL hp hs]
    rcases inR_cases a3 (cnt d p s) (by omega) with ⟨k, hk, rfl⟩ | ⟨hh, hn⟩
    · refine ⟨fun z => absurd z (nI_pos (by omega)), fun _ => ⟨fun _ => ?_, fun z => absurd (nI_lt hk (by omega)) z⟩⟩
      rw [takenBy_e hO hL hp hs hk]
      exact h p s k hp rfl hs rfl hk rfl
    · rcases hh with hh | ⟨i, hi, hi2, rfl⟩
      · exact ⟨fun _ => hX3 p s hp rfl hs rfl hn, fun z => absurd hh z⟩
      · exact ⟨fun _ => hX3 p s hp rfl hs rfl hn, fun _ => ⟨fun z => absurd z (nI_nlt hi hi2), fun _ => hX3 p s hp rfl hs rfl hn⟩⟩
  · rcases hh with hh | ⟨i, hi, hi2, rfl⟩
    · exact ⟨fun _ => hX2 p hp rfl hn, fun z => absurd hh z⟩
    · refine ⟨fun _ => hX2 p hp rfl hn, fun _ => ⟨fun z => absurd z ?_, fun _ => hX2 p hp rfl hn⟩⟩
      rw [li2, nI_leI hi2 (by decide)]
      omega
theorem paragraph_s {Post : Int32 → Int32 → Int32 → Int32 → (Nat → Int32) → (Nat → Int32) → (Nat → Int32) → (Nat → Int32) → (Nat → Int32) → (Nat → Int32) → (Nat → Int32) → (Nat → Int32) → (Nat → Int32) → Prop} {PostX : String → Int32 → Int32 → Int32 → (Nat → Int32) → (Nat → Int32) → (Nat → Int32) → (Nat → Int32) → (Nat → Int32) → (Nat → Int32) → (Nat → Int32) → (Nat → Int32) → (Nat → Int32) → Prop} (hO : OkB d) (hC : CCosts d costs) (hR : CRows d rows) (hL : CL d counts taken) (hB : KB d iBF b1 b2 b3 b4 b5 b6 b7)
    (h : ∀ p w, p < dP d → a1 = nI p → w < 8 → a2 = nI w → ∀ iBF b1 b2 b3 b4 b5 b6 b7 k1 k2 k3 k4, KB d iBF b1 b2 b3 b4 b5 b6 b7 → Post (paI d p w) iBF b1 b2 b3 b4 b5 b6 b7 k1 k2 k3 k4) (hX1 : ¬ inR a1 (dP d) → PostX "java/lang/IndexOutOfBoundsException" iBF b1 b2 b3 b4 b5 b6 b7 k1 k2 k3 k4) (hX2 : ∀ p, p < dP d → a1 = nI p → ¬ inR a2 8 → PostX "java/lang/IllegalArgumentException" iBF b1 b2 b3 b4 b5 b6 b7 k1 k2 k3 k4) :
    wpX6_paragraph iBF b1 b2 b3 b4 b5 b6 b7 (nI (dH d)) (nI (dL d)) (nI (dP d)) costs rows counts k1 k2 k3 k4 a1 a2 Post PostX := by
  have h16 := hO.p16
  unfold wpX6_paragraph
  refine reqPar_s (by omega) ?_ hX1
  rintro ⟨p, hp, rfl⟩
  refine reqWhat_s (P := 8) (by decide) ?_ (hX2 p hp rfl)
  rintro ⟨w, hw, rfl⟩
  refine ⟨fun z => ?_, fun z => ?_⟩
  · have : w ≠ 7 := fun e => z (by rw [e]; rfl)
    exact parNumber_s hO hR hL hp (by omega) (h p w hp rfl hw rfl _ _ _ _ _ _ _ _ _ _ _ _ hB)
  · have e : w = 7 := (nI_eq (by omega) (by decide)).mp z
    subst e
    refine upT_s hO hC hR hL hB (fun pages P qc fl fp qs sz chosen ends rest rob hP => ?_)
    rw [settingOf_e hO hP hp]
    exact h p 7 hp rfl hw rfl _ _ _ _ _ _ _ _ _ _ _ _ (Or.inr ⟨rfl, hP⟩)
/-- the plan that is asked -/
def plQ (d : Nat → Int32) (best : Bool) : Pl := if best then lyB d (dP d) else lyP d sg0 (dP d)
def plS (d : Nat → Int32) (best : Bool) : Nat → Nat := if best then sgB d else sg0
theorem plan_s {Post : Int32 → Int32 → Int32 → Int32 → Int32 → (Nat → Int32) → (Nat → Int32) → (Nat → Int32) → (Nat → Int32) → (Nat → Int32) → Int32 → Int32 → (Nat → Int32) → (Nat → Int32) → (Nat → Int32) → (Nat → Int32) → (Nat → Int32) → (Nat → Int32) → (Nat → Int32) → (Nat → Int32) → (Nat → Int32) → Prop} {PostX : String → Int32 → Int32 → Int32 → Int32 → (Nat → Int32) → (Nat → Int32) → (Nat → Int32) → (Nat → Int32) → (Nat → Int32) → Int32 → Int32 → (Nat → Int32) → (Nat → Int32) → (Nat → Int32) → (Nat → Int32) → (Nat → Int32) → (Nat → Int32) → (Nat → Int32) → (Nat → Int32) → (Nat → Int32) → Prop} (best : Bool) (hO : OkB d) (hC : CCosts d costs) (hR : CRows d rows) (hL : CL d counts taken) (hB : KB d iBF b1 b2 b3 b4 b5 b6 b7) (hP : KP d iPF c1 c2 c3 c4 c5 c6 c7)
    (h : ∀ w, w < 7 → a2 = nI w → ∀ iPF iBF b1 b2 b3 b4 b5 b6 b7 c1 c2 c3 c4 c5 c6 c7 k1 k2 k3 k4, KB d iBF b1 b2 b3 b4 b5 b6 b7 → KP d iPF c1 c2 c3 c4 c5 c6 c7 → Post (nI (numP d (plQ d best) (plS d best) w)) iPF iBF b1 b2 b3 b4 b5 b6 b7 c1 c2 c3 c4 c5 c6 c7 k1 k2 k3 k4) (hX : ¬ inR a2 7 → PostX "java/lang/IllegalArgumentException" iPF iBF b1 b2 b3 b4 b5 b6 b7 c1 c2 c3 c4 c5 c6 c7 k1 k2 k3 k4) :
    wpX6_plan iPF iBF b1 b2 b3 b4 b5 b6 b7 (nI (dH d)) (nI (dL d)) (nI (dP d)) costs rows counts c1 c2 c3 c4 c5 c6 c7 k1 k2 k3 k4 (bI best) a2 Post PostX := by
  unfold wpX6_plan
  refine reqWhat_s (P := 7) (by decide) ?_ hX
  rintro ⟨w, hw, rfl⟩
  cases best
  · refine ⟨fun _ => ?_, fun z => absurd rfl z⟩
    refine upF_s hO hR hL hP (fun pages P qc fl fp qs sz hh => ?_)
    exact numberOf_s hO hC hR hh hw (h w hw rfl _ _ _ _ _ _ _ _ _ _ _ _ _ _ _ _ _ _ _ _ hB (Or.inr ⟨rfl, hh⟩))
  · refine ⟨fun z => absurd z (by decide), fun _ => ?_⟩
    refine upT_s hO hC hR hL hB (fun pages P qc fl fp qs sz chosen ends rest rob hh => ?_)
    exact numberOf_s hO hC hR hh hw (h w hw rfl _ _ _ _ _ _ _ _ _ _ _ _ _ _ _ _ _ _ _ _ (Or.inr ⟨rfl, hh⟩) hP)
theorem page_s {Post : Int32 → Int32 → Int32 → Int32 → Int32 → (Nat → Int32) → (Nat → Int32) → (Nat → Int32) → (Nat → Int32) → (Nat → Int32) → Int32 → Int32 → (Nat → Int32) → (Nat → Int32) → (Nat → Int32) → (Nat → Int32) → (Nat → Int32) → (Nat → Int32) → (Nat → Int32) → (Nat → Int32) → (Nat → Int32) → Prop} {PostX : String → Int32 → Int32 → Int32 → Int32 → (Nat → Int32) → (Nat → Int32) → (Nat → Int32) → (Nat → Int32) → (Nat → Int32) → Int32 → Int32 → (Nat → Int32) → (Nat → Int32) → (Nat → Int32) → (Nat → Int32) → (Nat → Int32) → (Nat → Int32) → (Nat → Int32) → (Nat → Int32) → (Nat → Int32) → Prop} (best : Bool) (hO : OkB d) (hC : CCosts d costs) (hR : CRows d rows) (hL : CL d counts taken) (hB : KB d iBF b1 b2 b3 b4 b5 b6 b7) (hP : KP d iPF c1 c2 c3 c4 c5 c6 c7)
    (h : ∀ k w, k < (plQ d best).1 → a2 = nI k → w < 5 → a3 = nI w → ∀ iPF iBF b1 b2 b3 b4 b5 b6 b7 c1 c2 c3 c4 c5 c6 c7 k1 k2 k3 k4, KB d iBF b1 b2 b3 b4 b5 b6 b7 → KP d iPF c1 c2 c3 c4 c5 c6 c7 → Post (nI (pgN d (plQ d best) (fun p => cnt d p (plS d best p)) k w)) iPF iBF b1 b2 b3 b4 b5 b6 b7 c1 c2 c3 c4 c5 c6 c7 k1 k2 k3 k4)
    (hX1 : ¬ inR a2 (plQ d best).1 → ∀ iPF iBF b1 b2 b3 b4 b5 b6 b7 c1 c2 c3 c4 c5 c6 c7 k1 k2 k3 k4, KB d iBF b1 b2 b3 b4 b5 b6 b7 → KP d iPF c1 c2 c3 c4 c5 c6 c7 → PostX "java/lang/IndexOutOfBoundsException" iPF iBF b1 b2 b3 b4 b5 b6 b7 c1 c2 c3 c4 c5 c6 c7 k1 k2 k3 k4) (hX2 : ∀ k, k < (plQ d best).1 → a2 = nI k → ¬ inR a3 5 → ∀ iPF iBF b1 b2 b3 b4 b5 b6 b7 c1 c2 c3 c4 c5 c6 c7 k1 k2 k3 k4, KB d iBF b1 b2 b3 b4 b5 b6 b7 → KP d iPF c1 c2 c3 c4 c5 c6 c7 → PostX "java/lang/IllegalArgumentException" iPF iBF b1 b2 b3 b4 b5 b6 b7 c1 c2 c3 c4 c5 c6 c7 k1 k2 k3 k4) :
    wpX6_page iPF iBF b1 b2 b3 b4 b5 b6 b7 (nI (dH d)) (nI (dL d)) (nI (dP d)) costs rows counts c1 c2 c3 c4 c5 c6 c7 k1 k2 k3 k4 (bI best) a2 a3 Post PostX := by
  unfold wpX6_page
  cases best
  · refine ⟨fun _ => ?_, fun z => absurd rfl z⟩
    refine upF_s hO hR hL hP (fun pages P qc fl fp qs sz hh => ?_)
    have hb := hh.b480 hO
    have e := hh.1.1
    subst e
    have kk : KP d (nI 1) (nI (lyP d sg0 (dP d)).1) P qc fl fp qs sz := Or.inr ⟨rfl, hh⟩
    refine reqPage_s (by omega) ?_ (fun z => hX1 z _ _ _ _ _ _ _ _ _ _ _ _ _ _ _ _ _ _ _ _ hB kk)
    rintro ⟨k, hk, rfl⟩
    refine reqWhat_s (P := 5) (by decide) ?_ (fun z => hX2 k hk rfl z _ _ _ _ _ _ _ _ _ _ _ _ _ _ _ _ _ _ _ _ hB kk)
    rintro ⟨w, hw, rfl⟩
    rw [pageNumber_e hO hC hR hh hk hw]
    exact h k w hk rfl hw rfl _ _ _ _ _ _ _ _ _ _ _ _ _ _ _ _ _ _ _ _ hB kk
  · refine ⟨fun z => absurd z (by decide), fun _ => ?_⟩
    refine upT_s hO hC hR hL hB (fun pages P qc fl fp qs sz chosen ends rest rob hh => ?_)
    have hb := hh.b480 hO
    have e := hh.1.1
    subst e
    have kk : KB d (nI 1) (nI (lyB d (dP d)).1) P qc fl fp qs sz := Or.inr ⟨rfl, hh⟩
    refine reqPage_s (by omega) ?_ (fun z => hX1 z _ _ _ _ _ _ _ _ _ _ _ _ _ _ _ _ _ _ _ _ kk hP)
    rintro ⟨k, hk, rfl⟩
    refine reqWhat_s (P := 5) (by decide) ?_ (fun z => hX2 k hk rfl z _ _ _ _ _ _ _ _ _ _ _ _ _ _ _ _ _ _ _ _ kk hP)
    rintro ⟨w, hw, rfl⟩
    rw [pageNumber_e hO hC hR hh hk hw]
    exact h k w hk rfl hw rfl _ _ _ _ _ _ _ _ _ _ _ _ _ _ _ _ _ _ _ _ kk hP
theorem pageOf_s {Post : Int32 → Int32 → Int32 → Int32 → Int32 → (Nat → Int32) → (Nat → Int32) → (Nat → Int32) → (Nat → Int32) → (Nat → Int32) → Int32 → Int32 → (Nat → Int32) → (Nat → Int32) → (Nat → Int32) → (Nat → Int32) → (Nat → Int32) → (Nat → Int32) → (Nat → Int32) → (Nat → Int32) → (Nat → Int32) → Prop} {PostX : String → Int32 → Int32 → Int32 → Int32 → (Nat → Int32) → (Nat → Int32) → (Nat → Int32) → (Nat → Int32) → (Nat → Int32) → Int32 → Int32 → (Nat → Int32) → (Nat → Int32) → (Nat → Int32) → (Nat → Int32) → (Nat → Int32) → (Nat → Int32) → (Nat → Int32) → (Nat → Int32) → (Nat → Int32) → Prop} (best : Bool) (hO : OkB d) (hC : CCosts d costs) (hR : CRows d rows) (hL : CL d counts taken) (hB : KB d iBF b1 b2 b3 b4 b5 b6 b7) (hP : KP d iPF c1 c2 c3 c4 c5 c6 c7)
    (h : ∀ p l, p < dP d → a2 = nI p → l < cnt d p (plS d best p) → a3 = nI l → ∀ iPF iBF b1 b2 b3 b4 b5 b6 b7 c1 c2 c3 c4 c5 c6 c7 k1 k2 k3 k4, KB d iBF b1 b2 b3 b4 b5 b6 b7 → KP d iPF c1 c2 c3 c4 c5 c6 c7 → Post (nI (pgW (plQ d best) p l (plQ d best).1)) iPF iBF b1 b2 b3 b4 b5 b6 b7 c1 c2 c3 c4 c5 c6 c7 k1 k2 k3 k4)
    (hX1 : ¬ inR a2 (dP d) → PostX "java/lang/IndexOutOfBoundsException" iPF iBF b1 b2 b3 b4 b5 b6 b7 c1 c2 c3 c4 c5 c6 c7 k1 k2 k3 k4) (hX2 : ∀ p, p < dP d → a2 = nI p → ¬ inR a3 (cnt d p (plS d best p)) → ∀ iPF iBF b1 b2 b3 b4 b5 b6 b7 c1 c2 c3 c4 c5 c6 c7 k1 k2 k3 k4, KB d iBF b1 b2 b3 b4 b5 b6 b7 → KP d iPF c1 c2 c3 c4 c5 c6 c7 → PostX "java/util/NoSuchElementException" iPF iBF b1 b2 b3 b4 b5 b6 b7 c1 c2 c3 c4 c5 c6 c7 k1 k2 k3 k4) :
    wpX6_pageOf iPF iBF b1 b2 b3 b4 b5 b6 b7 (nI (dH d)) (nI (dL d)) (nI (dP d)) costs rows counts c1 c2 c3 c4 c5 c6 c7 k1 k2 k3 k4 (bI best) a2 a3 Post PostX := by
  have h16 := hO.p16
  unfold wpX6_pageOf wpX6_pageOf_b26
  refine reqPar_s (by omega) ?_ hX1
  rintro ⟨p, hp, rfl⟩
  cases best
  · refine ⟨fun _ => ?_, fun z => absurd rfl z⟩
    refine upF_s hO hR hL hP (fun pages P qc fl fp qs sz hh => ?_)
    have kk : KP d (nI 1) pages P qc fl fp qs sz := Or.inr ⟨rfl, hh⟩
    have hc := cnt_le hO hp (sg0 p)
    rw [linesOf_e hO hh hp]
    rcases inR_cases a3 (cnt d p (sg0 p)) (by omega) with ⟨k, hk, rfl⟩ | ⟨hn, hi⟩
    · refine ⟨fun z => absurd z (nI_pos (by omega)), fun _ => ⟨fun _ => ?_, fun z => absurd (nI_lt hk (by omega)) z⟩⟩
      exact pageWith_s hO hh (by omega) (by omega) (h p k hp rfl hk rfl _ _ _ _ _ _ _ _ _ _ _ _ _ _ _ _ _ _ _ _ hB kk)
    · have x := hX2 p hp rfl hi
      rcases hn with hn | ⟨i, hi1, hi2, rfl⟩
      · exact ⟨fun _ => x _ _ _ _ _ _ _ _ _ _ _ _ _ _ _ _ _ _ _ _ hB kk, fun z => absurd hn z⟩
      · exact ⟨fun _ => x _ _ _ _ _ _ _ _ _ _ _ _ _ _ _ _ _ _ _ _ hB kk, fun _ => ⟨fun z => absurd z (nI_nlt hi1 hi2), fun _ => x _ _ _ _ _ _ _ _ _ _ _ _ _ _ _ _ _ _ _ _ hB kk⟩⟩
  · refine ⟨fun z => absurd z (by decide), fun _ => ?_⟩
    refine upT_s hO hC hR hL hB (fun pages P qc fl fp qs sz chosen ends rest rob hh => ?_)
    have kk : KB d (nI 1) pages P qc fl fp qs sz := Or.inr ⟨rfl, hh⟩
    have hc := cnt_le hO hp (sgB d p)
    rw [linesOf_e hO hh hp]
    rcases inR_cases a3 (cnt d p (sgB d p)) (by omega) with ⟨k, hk, rfl⟩ | ⟨hn, hi⟩
    · refine ⟨fun z => absurd z (nI_pos (by omega)), fun _ => ⟨fun _ => ?_, fun z => absurd (nI_lt hk (by omega)) z⟩⟩
      exact pageWith_s hO hh (by omega) (by omega) (h p k hp rfl hk rfl _ _ _ _ _ _ _ _ _ _ _ _ _ _ _ _ _ _ _ _ kk hP)
    · have x := hX2 p hp rfl hi
      rcases hn with hn | ⟨i, hi1, hi2, rfl⟩
      · exact ⟨fun _ => x _ _ _ _ _ _ _ _ _ _ _ _ _ _ _ _ _ _ _ _ kk hP, fun z => absurd hn z⟩
      · exact ⟨fun _ => x _ _ _ _ _ _ _ _ _ _ _ _ _ _ _ _ _ _ _ _ kk hP, fun _ => ⟨fun z => absurd z (nI_nlt hi1 hi2), fun _ => x _ _ _ _ _ _ _ _ _ _ _ _ _ _ _ _ _ _ _ _ kk hP⟩⟩
end CRD
