/-! THE REFERENCE'S READER: statements, the text; its load -/
section MST
variable {tx : Nat → Nat} {len at_ : Nat} {text : Nat → Int32} {eo : Int32} {dd : Nat → Int32}
theorem mstm_end (hT : TX tx len text) {ns s e : Int32} {D : Nat → Int32} {a : Nat} (ha : a ≤ len) {Post : Int32 → Int32 → Int32 → Int32 → Int32 → (Nat → Int32) → Prop}
    (hE : e ≠ 0 → Post (nI a) e eo ns s D) (hF : e = 0 → ∀ c o, pSemi tx len a = .inl (c, o) → ∀ a, a ≤ len → Post (nI a) c (nI o) ns s D) (hS : e = 0 → ∀ a' u, pSemi tx len a = .inr (a', u) → Post (nI a') 0 eo ns s D) :
    wpX7_statement_b132 (nI len) text Post (nI a) e eo ns s D := by
  unfold wpX7_statement_b132
  exact expect_s hT ha hE hF hS
theorem mcost_E (hT : TX tx len text) {e : Int32} (he : e ≠ 0) {Post : Int32 → Int32 → Int32 → Int32 → Int32 → (Nat → Int32) → Prop} {s : Int32} (h : ∀ a ns D, a ≤ len → Post (nI a) e eo ns s D) :
    ∀ r k a ns D, k + r = 6 → a ≤ len → wpX7_statement_L27 (nI len) text Post (r + 1) (nI a) e eo ns s D (nI k)
  | 0, k, a, ns, D, hk, ha => by
    unfold wpX7_statement_L27
    have z : (6 : Int32) ≤ nI k := by rw [li6, nI_leI (by omega) (by omega)]; omega
    exact ⟨fun _ => mstm_end hT ha (fun _ => h a _ _ ha) (fun y => absurd y he) (fun y => absurd y he), fun y => absurd z y⟩
  | r + 1, k, a, ns, D, hk, ha => by
    unfold wpX7_statement_L27
    have z : ¬ (6 : Int32) ≤ nI k := by rw [li6, nI_leI (by omega) (by omega)]; omega
    refine ⟨fun y => absurd y z, fun _ => ?_⟩
    refine numberM_s (lo := 0) (hi := 999) hT (by decide) (by decide) ha (fun _ => ?_) (fun y => absurd y he) (fun y => absurd y he)
    rw [li5, nI_add, nI_1]
    exact ⟨vp_in_nI (by omega) (by decide), mcost_E hT he h r (k + 1) a _ _ (by omega) ha⟩
theorem mcost_0 (hT : TX tx len text) {a0 : Nat} {Post : Int32 → Int32 → Int32 → Int32 → Int32 → (Nat → Int32) → Prop} {s : Int32} (hF : ∀ c o, pCs tx len 6 a0 = .inl (c, o) → ∀ a ns D, a ≤ len → Post (nI a) c (nI o) ns s D) (hS : ∀ a f, pCs tx len 6 a0 = .inr (a, f) → ∀ ns D, E5 (costD dd f) D → wpX7_statement_b132 (nI len) text Post (nI a) 0 eo ns s D) :
    ∀ r k a f ns D, k + r = 6 → a ≤ len → pCs tx len k a0 = .inr (a, f) → (∀ j, j < 555 → D j = if 5 ≤ j ∧ j < 5 + k then nI (f (j - 5)) else dd j) → wpX7_statement_L27 (nI len) text Post (r + 1) (nI a) 0 eo ns s D (nI k)
  | 0, k, a, f, ns, D, hk, ha, hp, hD => by
    unfold wpX7_statement_L27
    have z : (6 : Int32) ≤ nI k := by rw [li6, nI_leI (by omega) (by omega)]; omega
    have e : k = 6 := by omega
    subst e
    exact ⟨fun _ => hS a f hp ns D hD, fun y => absurd z y⟩
  | r + 1, k, a, f, ns, D, hk, ha, hp, hD => by
    unfold wpX7_statement_L27
    have z : ¬ (6 : Int32) ≤ nI k := by rw [li6, nI_leI (by omega) (by omega)]; omega
    refine ⟨fun y => absurd y z, fun _ => ?_⟩
    refine numberM_s (lo := 0) (hi := 999) hT (by decide) (by decide) ha (fun y => absurd rfl y) (fun _ c o hn b ns hb => ?_) (fun _ b v hn => ?_)
    · rw [li5, nI_add, nI_1]
      have h1 : pCs tx len (k + 1) a0 = .inl (c, o) := by
        unfold pCs
        rw [hp]
        dsimp only
        rw [hn]
      have h2 := pCs_up h1 r
      rw [show k + 1 + r = 6 by omega] at h2
      exact ⟨vp_in_nI (by omega) (by decide), mcost_E hT (bad_ne (pNum_b ha hn).1) (fun a ns D ha => hF c o h2 a ns D ha) r (k + 1) b _ _ (by omega) hb⟩
    · rw [li5, nI_add, nI_1, nI_clamp (by omega)]
      have h1 : pCs tx len (k + 1) a0 = .inr (b, upN f k v) := by
        unfold pCs
        rw [hp]
        dsimp only
        rw [hn]
      refine ⟨vp_in_nI (by omega) (by decide), mcost_0 hT hF hS r (k + 1) b (upN f k v) _ _ (by omega) (pNum_r ha hn).1 h1 (fun j hj => ?_)⟩
      by_cases g : j = 5 + k
      · subst g
        rw [pk_us, if_pos (by omega), show 5 + k - 5 = k by omega, upN_s]
      · rw [pk_un g, hD j hj]
        by_cases g2 : 5 ≤ j ∧ j < 5 + k
        · rw [if_pos g2, if_pos (by omega), upN_n (by omega)]
        · rw [if_neg g2, if_neg (by omega)]
theorem statement_s (hT : TX tx len text) (ha : at_ ≤ len) (hsk : sk tx len at_ = at_) {hc hl : Bool} {ns : Int32} {D : Nat → Int32} (hO : OkB dd) (hD : E5 dd D) {Post : Int32 → Int32 → Int32 → Int32 → Int32 → (Nat → Int32) → Prop}
    (hF : ∀ c o, pStm tx len at_ hc hl dd = .inl (c, o) → ∀ a ns s D, a ≤ len → Post (nI a) c (nI o) ns s D)
    (hS : ∀ a hc' hl' dd', pStm tx len at_ hc hl dd = .inr (a, hc', hl', dd') → ∀ ns D, E5 dd' D → Post (nI a) 0 eo ns (sn hc' hl') D) :
    wpX7_statement (nI len) (nI at_) 0 eo ns (sn hc hl) text D Post := by
  have hbf := pBody_f (tx := tx) hO (hc := hc) (hl := hl) ha
  -- a body that fails
  have bF0 : ∀ c o, pBody tx len at_ hc hl dd = .inl (c, o) → ∀ a ns s D, a ≤ len → Post (nI a) c (nI o) ns s D := fun c o hb a ns s D ha => by
    refine hF c o ?_ a ns s D ha
    unfold pStm
    rw [hb]
  have bF : ∀ c o, pBody tx len at_ hc hl dd = .inl (c, o) → ∀ a ns s D, a ≤ len → wpX7_statement_b132 (nI len) text Post (nI a) c (nI o) ns s D := fun c o hb a ns s D ha => by
    have hbad := bad_ne (hbf.1 c o hb).1
    exact mstm_end hT ha (fun _ => bF0 c o hb a _ _ _ ha) (fun y => absurd y hbad) (fun y => absurd y hbad)
  -- a body that is read
  have bS : ∀ b hc' hl' dd', pBody tx len at_ hc hl dd = .inr (b, hc', hl', dd') → ∀ ns D, E5 dd' D → wpX7_statement_b132 (nI len) text Post (nI b) 0 eo ns (sn hc' hl') D := fun b hc' hl' dd' hb ns D hE => by
    obtain ⟨r1, -, -⟩ := hbf.2 _ _ _ _ hb
    refine mstm_end hT r1 (fun y => absurd rfl y) (fun _ c o hp a ha => hF c o ?_ a _ _ _ ha) (fun _ a' u hp => hS a' hc' hl' dd' ?_ _ D hE)
    · unfold pStm
      rw [hb]
      dsimp only
      rw [hp]
    · unfold pStm
      rw [hb]
      dsimp only
      rw [hp]
  clear hF hS
  have same : ∀ {w}, (pWd tx len w at_).1 = false → (pWd tx len w at_).2 = at_ := fun h => (pWd_no h).trans hsk
  unfold pBody at bF0 bF bS
  unfold wpX7_statement
  refine ahead_s hT ha ?_
  rw [hsk]
  refine takeWordM_s hT (by decide) ha ?_
  cases w1 : (pWd tx len 1 at_).1
  · rw [w1, if_neg (by decide)] at bF bS
    refine ⟨fun _ => ?_, fun z => absurd rfl z⟩
    rw [same w1]
    refine takeWordM_s hT (by decide) ha ?_
    cases w2 : (pWd tx len 2 at_).1
    · rw [w2, if_neg (by decide)] at bF bS
      refine ⟨fun _ => ?_, fun z => absurd rfl z⟩
      rw [same w2]
      refine takeWordM_s hT (by decide) ha ?_
      cases w3 : (pWd tx len 3 at_).1
      · rw [w3, if_neg (by decide)] at bF bS
        refine ⟨fun _ => ?_, fun z => absurd rfl z⟩
        rw [same w3]
        refine takeWordM_s hT (by decide) ha ?_
        cases w5 : (pWd tx len 5 at_).1
        · rw [w5, if_neg (by decide)] at bF
          refine ⟨fun _ => ?_, fun z => absurd rfl z⟩
          rw [same w5, report_0]
          exact bF _ _ rfl _ _ _ _ ha
        · rw [w5, if_pos rfl] at bF bS
          refine ⟨fun z => absurd z (by decide), fun _ => ?_⟩
          have hw := pWd_2 (tx := tx) (w := 5) ha (by decide)
          refine readParagraphM_s (hd := true) hT hw.1 hO hD (fun c o hp a ns D ha => ?_) (fun a d' hp ns D hD' => ?_)
          · rw [hp] at bF
            exact bF c o rfl a _ _ _ ha
          · rw [hp] at bS
            exact bS a hc hl d' rfl _ D hD'
      · rw [w3, if_pos rfl] at bF bS
        refine ⟨fun z => absurd z (by decide), fun _ => ?_⟩
        have hw := pWd_2 (tx := tx) (w := 3) ha (by decide)
        refine readParagraphM_s (hd := false) hT hw.1 hO hD (fun c o hp a ns D ha => ?_) (fun a d' hp ns D hD' => ?_)
        · rw [hp] at bF
          exact bF c o rfl a _ _ _ ha
        · rw [hp] at bS
          exact bS a hc hl d' rfl _ D hD'
    · rw [w2, if_pos rfl] at bF bS
      refine ⟨fun z => absurd z (by decide), fun _ => ?_⟩
      have hw := pWd_2 (tx := tx) (w := 2) ha (by decide)
      refine once_l (fun hb => ?_) (fun hb => ?_)
      · rw [if_pos hb] at bF
        refine numberM_s (lo := 0) (hi := 9) hT (by decide) (by decide) hw.1 (fun _ => ?_) (fun y => absurd y (by decide)) (fun y => absurd y (by decide))
        exact ⟨vp_in_nI (n := 3) (by decide) (by decide), bF _ _ rfl _ _ _ _ hw.1⟩
      · rw [hb, if_neg (by decide)] at bF bS
        refine numberM_s (lo := 0) (hi := 9) hT (by decide) (by decide) hw.1 (fun y => absurd rfl y) (fun _ c o hp a ns ha => ?_) (fun _ a v hp => ?_)
        · rw [hp] at bF
          exact ⟨vp_in_nI (n := 3) (by decide) (by decide), bF _ _ rfl _ _ _ _ ha⟩
        · rw [hp] at bS
          refine ⟨vp_in_nI (n := 3) (by decide) (by decide), bS a hc true _ rfl _ _ (fun j hj => ?_)⟩
          rw [show (3 : Int32).toNatClampNeg = 3 from rfl]
          by_cases g : j = 3
          · subst g; rw [pk_us, pk_us]
          · rw [pk_un g, pk_un g]; exact hD j hj
  · rw [w1, if_pos rfl] at bF0 bF bS
    refine ⟨fun z => absurd z (by decide), fun _ => ?_⟩
    have hw := pWd_2 (tx := tx) (w := 1) ha (by decide)
    refine once_c (fun hb => ?_) (fun hb => ?_)
    · rw [if_pos hb] at bF0
      exact ⟨7, mcost_E hT (by decide) (fun a ns D ha => bF0 _ _ rfl a ns _ D ha) 6 0 _ ns D rfl hw.1⟩
    · rw [hb, if_neg (by decide)] at bF0 bS
      refine ⟨7, mcost_0 (dd := dd) hT (fun c o hp a ns D ha => ?_) (fun a f hp ns D hE => ?_) 6 0 (pWd tx len 1 at_).2 (fun _ => 0) ns D rfl hw.1 rfl (fun j hj => ?_)⟩
      · rw [hp] at bF0
        exact bF0 c o rfl a ns _ D ha
      · rw [hp] at bS
        exact bS a true hl _ rfl ns D hE
      · rw [if_neg (by omega)]
        exact hD j hj
end MST
