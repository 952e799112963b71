/-! THE CLASS'S READER: the text -/
section CRE
variable {tx : Nat → Nat} {len at_ : Nat} {text : Nat → Int32} {eo : Int32}
theorem CRows_same {d d' rows : Nat → Int32} (hO : OkB d) (hR : CRows d rows) (hP : dP d' = dP d) (he : ∀ p, ParEq d p d' p) : CRows d' rows := fun q hq => by
  rw [hP] at hq
  exact CPar_eq (hO.n30 hq) (hR q hq) (he q) (fun k hk => rfl)
theorem pPar_h {start a b : Nat} {hd : Bool} {dd dd' : Nat → Int32} (h : pPar tx len start a hd dd = .inr (b, dd')) : HeadEq dd dd' := by
  unfold pPar at h
  split at h
  · cases h
  · cases h1 : pWs tx len (dW dd - dS dd) 31 0 (pWd tx len 4 a).2 (fun _ => 0) with
    | inl e => rw [h1] at h; cases h
    | inr x =>
      obtain ⟨b0, n, f⟩ := x
      rw [h1] at h
      cases h
      intro j hj h4
      unfold parD
      rw [if_neg h4, if_neg (by omega), if_neg (by omega), if_neg (by omega), if_neg (by omega), if_neg (by omega)]
theorem stm_end (hT : TX tx len text) {W S hc hl L P : Int32} {cs rows : Nat → Int32} {e : Int32} {a : Nat} (ha : a ≤ len) {Post : Int32 → Int32 → Int32 → Int32 → Int32 → Int32 → Int32 → (Nat → Int32) → (Nat → Int32) → Prop}
    (hE : e ≠ 0 → ∀ a, a ≤ len → Post (nI a) e eo hc hl L P cs rows) (hF : e = 0 → ∀ c o, pSemi tx len a = .inl (c, o) → ∀ a, a ≤ len → Post (nI a) c (nI o) hc hl L P cs rows) (hS : e = 0 → ∀ a' u, pSemi tx len a = .inr (a', u) → Post (nI a') e eo hc hl L P cs rows) :
    wpX5_readStatement_b82 (nI len) W S 700 text Post (nI a) e eo hc hl L P cs rows := by
  unfold wpX5_readStatement_b82
  exact takeSemi_s hT ha hE hF hS
theorem readStatement_s (hT : TX tx len text) (ha : at_ ≤ len) (hsk : sk tx len at_ = at_) {hc hl : Bool} {dd cs rows : Nat → Int32} (hO : OkB dd) (hC : CCosts dd cs) (hR : CRows dd rows) {Post : Int32 → Int32 → Int32 → Int32 → Int32 → Int32 → Int32 → (Nat → Int32) → (Nat → Int32) → Prop}
    (hF : ∀ c o, pStm tx len at_ hc hl dd = .inl (c, o) → ∀ a hc hl L P cs rows, a ≤ len → Post (nI a) c (nI o) hc hl L P cs rows)
    (hS : ∀ a hc' hl' dd', pStm tx len at_ hc hl dd = .inr (a, hc', hl', dd') → ∀ cs rows, CCosts dd' cs → CRows dd' rows → Post (nI a) 0 eo (bI hc') (bI hl') (nI (dL dd')) (nI (dP dd')) cs rows) :
    wpX5_readStatement (nI len) (nI at_) 0 eo (bI hc) (bI hl) (nI (dW dd)) (nI (dS dd)) (nI (dL dd)) (nI (dP dd)) cs rows 700 text Post := by
  have hbf := pBody_f (tx := tx) hO (hc := hc) (hl := hl) ha
  -- a body that fails
  have bF : ∀ c o, pBody tx len at_ hc hl dd = .inl (c, o) → ∀ a hc hl L P cs rows, a ≤ len → wpX5_readStatement_b82 (nI len) (nI (dW dd)) (nI (dS dd)) 700 text Post (nI a) c (nI o) hc hl L P cs rows := fun c o hb a hc1 hl1 L P cs rows ha => by
    have hbad := bad_ne (hbf.1 c o hb).1
    have h1 : pStm tx len at_ hc hl dd = .inl (c, o) := by
      unfold pStm
      rw [hb]
    exact stm_end hT ha (fun _ a ha => hF c o h1 a _ _ _ _ _ _ ha) (fun y => absurd y hbad) (fun y => absurd y hbad)
  -- a body that is read
  have bS : ∀ b hc' hl' dd', pBody tx len at_ hc hl dd = .inr (b, hc', hl', dd') → ∀ cs rows, CCosts dd' cs → CRows dd' rows → wpX5_readStatement_b82 (nI len) (nI (dW dd)) (nI (dS dd)) 700 text Post (nI b) 0 eo (bI hc') (bI hl') (nI (dL dd')) (nI (dP dd')) cs rows := fun b hc' hl' dd' hb cs rows h1 h2 => by
    obtain ⟨r1, -, -⟩ := hbf.2 _ _ _ _ hb
    refine stm_end hT r1 (fun y => absurd rfl y) (fun _ c o hp a ha => hF c o ?_ a _ _ _ _ _ _ ha) (fun _ a' u hp => hS a' hc' hl' dd' ?_ cs rows h1 h2)
    · unfold pStm
      rw [hb]
      dsimp only
      rw [hp]
    · unfold pStm
      rw [hb]
      dsimp only
      rw [hp]
  clear hF hS
  have same : ∀ {w}, (pWd tx len w at_).1 = false → (pWd tx len w at_).2 = at_ := fun h => (pWd_no h).trans hsk
  unfold pBody at bF bS
  unfold wpX5_readStatement
  refine takesWord_s hT (by decide) ha ?_
  cases w1 : (pWd tx len 1 at_).1
  · rw [w1, if_neg (by decide)] at bF bS
    refine ⟨fun _ => ?_, fun z => absurd rfl z⟩
    rw [same w1]
    refine takesWord_s hT (by decide) ha ?_
    cases w2 : (pWd tx len 2 at_).1
    · rw [w2, if_neg (by decide)] at bF bS
      refine ⟨fun _ => ?_, fun z => absurd rfl z⟩
      rw [same w2]
      refine takesWord_s hT (by decide) ha ?_
      cases w3 : (pWd tx len 3 at_).1
      · rw [w3, if_neg (by decide)] at bF bS
        refine ⟨fun _ => ?_, fun z => absurd rfl z⟩
        rw [same w3]
        refine takesWord_s hT (by decide) ha ?_
        cases w5 : (pWd tx len 5 at_).1
        · rw [w5, if_neg (by decide)] at bF
          refine ⟨fun _ => ?_, fun z => absurd rfl z⟩
          rw [same w5, fail_0]
          exact bF _ _ rfl _ _ _ _ _ _ _ ha
        · rw [w5, if_pos rfl] at bF bS
          refine ⟨fun z => absurd z (by decide), fun _ => ?_⟩
          have hw := pWd_2 (tx := tx) (w := 5) ha (by decide)
          refine readParagraph_s (hd := true) hT hw.1 hO hR (fun c o hp a P rows ha => ?_) (fun a d' hp rows hR' => ?_)
          · rw [hp] at bF
            exact bF c o rfl a _ _ _ _ _ _ ha
          · rw [hp] at bS
            have hh := pPar_h hp
            have hx := bS a hc hl d' rfl cs rows (fun k hk => by rw [hh.c hk]; exact hC k hk) hR'
            rw [hh.l] at hx
            exact hx
      · rw [w3, if_pos rfl] at bF bS
        refine ⟨fun z => absurd z (by decide), fun _ => ?_⟩
        have hw := pWd_2 (tx := tx) (w := 3) ha (by decide)
        refine readParagraph_s (hd := false) hT hw.1 hO hR (fun c o hp a P rows ha => ?_) (fun a d' hp rows hR' => ?_)
        · rw [hp] at bF
          exact bF c o rfl a _ _ _ _ _ _ ha
        · rw [hp] at bS
          have hh := pPar_h hp
          have hx := bS a hc hl d' rfl cs rows (fun k hk => by rw [hh.c hk]; exact hC k hk) hR'
          rw [hh.l] at hx
          exact hx
    · rw [w2, if_pos rfl] at bF bS
      refine ⟨fun z => absurd z (by decide), fun _ => ?_⟩
      have hw := pWd_2 (tx := tx) (w := 2) ha (by decide)
      refine readLimit_s hT hw.1 (fun hb a l ha => ?_) (fun hb c o hp a l ha => ?_) (fun hb a v hp => ?_)
      · rw [if_pos hb] at bF
        exact bF _ _ rfl a _ _ _ _ _ _ ha
      · rw [hb, if_neg (by decide), hp] at bF
        exact bF c o rfl a _ _ _ _ _ _ ha
      · rw [hb, if_neg (by decide), hp] at bS
        have hv := pNum_r hw.1 hp
        obtain ⟨l1, l2, l3, l4, l5, -⟩ := limD_ok hO hv.2.2.2
        have hx := bS a hc true _ rfl cs rows (fun k hk => by rw [l4]; exact hC k hk) (CRows_same hO hR l2 l5)
        rw [l2, l3] at hx
        exact hx
  · rw [w1, if_pos rfl] at bF bS
    refine ⟨fun z => absurd z (by decide), fun _ => ?_⟩
    have hw := pWd_2 (tx := tx) (w := 1) ha (by decide)
    refine readCosts_s hT hw.1 (fun hb a cs ha => ?_) (fun hb c o hp a cs ha => ?_) (fun hb a f hp cs hcs => ?_)
    · rw [if_pos hb] at bF
      exact bF _ _ rfl a _ _ _ _ _ _ ha
    · rw [hb, if_neg (by decide), hp] at bF
      exact bF c o rfl a _ _ _ _ _ _ ha
    · rw [hb, if_neg (by decide), hp] at bS
      have hv := pCs_r 6 hw.1 hp
      obtain ⟨l1, l2, l3, l4, -, -, -, l5⟩ := costD_ok hO hv.2.2
      have hx := bS a true hl _ rfl cs rows (fun k hk => by rw [l3 k hk]; exact hcs k hk) (CRows_same hO hR l2 l4)
      rw [l2, l5] at hx
      exact hx
theorem head_E (hT : TX tx len text) {e : Int32} (he : e ≠ 0) {a : Nat} {w h s : Int32} (ha : a ≤ len) {Post : Int32 → Int32 → Int32 → Int32 → Int32 → Int32 → Prop} (hE : ∀ a w h s, a ≤ len → Post (nI a) e eo w h s) : wpX5_readHead_b19 (nI len) 700 text Post (nI a) e eo w h s := by
  unfold wpX5_readHead_b19
  refine takeNum_s (lo := 10) (hi := 60) hT (by decide) (by decide) ha (fun _ v1 b hv1 hb => ?_) (fun y => absurd y he) (fun y => absurd y he)
  refine takeNum_s (lo := 2) (hi := 40) hT (by decide) (by decide) hb (fun _ v2 b hv2 hb => ?_) (fun y => absurd y he) (fun y => absurd y he)
  refine takeNum_s (lo := 0) (hi := 9) hT (by decide) (by decide) hb (fun _ v3 b hv3 hb => ?_) (fun y => absurd y he) (fun y => absurd y he)
  exact takeSemi_s hT hb (fun _ b hb => hE b _ _ _ hb) (fun y => absurd y he) (fun y => absurd y he)
theorem readHead_s (hT : TX tx len text) {w h s : Int32} {Post : Int32 → Int32 → Int32 → Int32 → Int32 → Int32 → Prop}
    (hF : ∀ c o, pHead tx len = .inl (c, o) → ∀ a w h s, a ≤ len → Post (nI a) c (nI o) w h s)
    (hS : ∀ a w h s, a ≤ len → 10 ≤ w → w ≤ 60 → 2 ≤ h → h ≤ 40 → s ≤ 9 → pHead tx len = .inr (a, bkN w h s) → Post (nI a) 0 eo (nI w) (nI h) (nI s)) : wpX5_readHead (nI len) 0 0 eo w h s 700 text Post := by
  have hw := pWd_2 (tx := tx) (len := len) (w := 0) (a := 0) (Nat.zero_le _) (by decide)
  unfold pHead at hF hS
  unfold wpX5_readHead
  refine takesWord_s (at_ := 0) hT (by decide) (Nat.zero_le _) ?_
  cases w1 : (pWd tx len 0 0).1
  · rw [w1, if_neg (by decide)] at hF
    refine ⟨fun z => absurd rfl z, fun _ => ?_⟩
    rw [fail_0]
    exact head_E hT (by decide) hw.1 (fun a w h s ha => hF _ _ rfl a w h s ha)
  · rw [w1, if_pos rfl] at hF hS
    refine ⟨fun _ => ?_, fun z => absurd z (by decide)⟩
    unfold wpX5_readHead_b19
    refine takeNum_s (lo := 10) (hi := 60) hT (by decide) (by decide) hw.1 (fun y => absurd rfl y) (fun _ c o hp v1 b hv1 hb => ?_) (fun _ a v1 hp => ?_)
    · have he := bad_ne (pNum_b hw.1 hp).1
      rw [hp] at hF
      refine takeNum_s (lo := 2) (hi := 40) hT (by decide) (by decide) hb (fun _ v2 b hv2 hb => ?_) (fun y => absurd y he) (fun y => absurd y he)
      refine takeNum_s (lo := 0) (hi := 9) hT (by decide) (by decide) hb (fun _ v3 b hv3 hb => ?_) (fun y => absurd y he) (fun y => absurd y he)
      exact takeSemi_s hT hb (fun _ b hb => hF _ _ rfl b _ _ _ hb) (fun y => absurd y he) (fun y => absurd y he)
    · obtain ⟨a1, -, a3, a4⟩ := pNum_r hw.1 hp
      rw [hp] at hF hS
      dsimp only at hF hS
      refine takeNum_s (lo := 2) (hi := 40) hT (by decide) (by decide) a1 (fun y => absurd rfl y) (fun _ c o hp v2 b hv2 hb => ?_) (fun _ b v2 hp => ?_)
      · have he := bad_ne (pNum_b a1 hp).1
        rw [hp] at hF
        refine takeNum_s (lo := 0) (hi := 9) hT (by decide) (by decide) hb (fun _ v3 b hv3 hb => ?_) (fun y => absurd y he) (fun y => absurd y he)
        exact takeSemi_s hT hb (fun _ b hb => hF _ _ rfl b _ _ _ hb) (fun y => absurd y he) (fun y => absurd y he)
      · obtain ⟨b1, -, b3, b4⟩ := pNum_r a1 hp
        rw [hp] at hF hS
        dsimp only at hF hS
        refine takeNum_s (lo := 0) (hi := 9) hT (by decide) (by decide) b1 (fun y => absurd rfl y) (fun _ c o hp v3 b hv3 hb => ?_) (fun _ c v3 hp => ?_)
        · have he := bad_ne (pNum_b b1 hp).1
          rw [hp] at hF
          exact takeSemi_s hT hb (fun _ b hb => hF _ _ rfl b _ _ _ hb) (fun y => absurd y he) (fun y => absurd y he)
        · obtain ⟨c1, -, -, c4⟩ := pNum_r b1 hp
          rw [hp] at hF hS
          dsimp only at hF hS
          refine takeSemi_s hT c1 (fun y => absurd rfl y) (fun _ c o hp b hb => ?_) (fun _ g u hp => ?_)
          · rw [hp] at hF
            exact hF _ _ rfl b _ _ _ hb
          · rw [hp] at hS
            exact hS g _ _ _ (pSemi_r c1 (by assumption)).1 a3 a4 b3 b4 c4 rfl
/-- all that a reader leaves is the error and where, or the book -/
abbrev RT : Type := Int32 → Int32 → Int32 → Int32 → Int32 → Int32 → Int32 → Int32 → Int32 → Int32 → Int32 → (Nat → Int32) → (Nat → Int32) → Prop
theorem read_E {Post : RT} {e : Int32} (he : e ≠ 0) {f : Nat} {n L a hc hl w h s l P x : Int32} {cs rows : Nat → Int32} (hq : Post L a e eo hc hl w h s l P cs rows) : wpX5_read_L48 700 text n Post (f + 1) L a e eo hc hl w h s l P cs rows x := by
  unfold wpX5_read_L48
  exact ⟨fun _ => hq, fun _ => ⟨fun _ => hq, fun z => absurd z he⟩⟩
theorem read_L (hT : TX tx len text) {Post : RT} {res : Rd (Nat → Int32)}
    (hF : ∀ c o, res = .inl (c, o) → ∀ L a hc hl w h s l P cs rows, Post L a c (nI o) hc hl w h s l P cs rows)
    (hS : ∀ b dd, res = .inr (b, dd) → ∀ hc hl cs rows, CCosts dd cs → CRows dd rows → Post (nI len) (nI b) 0 eo hc hl (nI (dW dd)) (nI (dH dd)) (nI (dS dd)) (nI (dL dd)) (nI (dP dd)) cs rows) :
    ∀ f x a hc hl dd cs rows, f + x = len + 1 → x ≤ a → a ≤ len → OkB dd → CCosts dd cs → CRows dd rows → pLoop tx len f a hc hl dd = res →
      wpX5_read_L48 700 text (nI len) Post (f + 1) (nI len) (nI a) 0 eo (bI hc) (bI hl) (nI (dW dd)) (nI (dH dd)) (nI (dS dd)) (nI (dL dd)) (nI (dP dd)) cs rows (nI x)
  | 0, x, a, hc, hl, dd, cs, rows, hf, hx, ha, hO, hC, hR, he => by omega
  | f + 1, x, a, hc, hl, dd, cs, rows, hf, hx, ha, hO, hC, hR, he => by
    have h7 := hT.1
    have hs := sk_le (tx := tx) ha
    have hg := sk_ge (tx := tx) (len := len) a
    unfold pLoop at he
    unfold wpX5_read_L48
    rcases Nat.lt_or_ge x len with g | g
    · have z : ¬ nI len ≤ nI x := nI_ge (by omega) (by omega)
      refine ⟨fun y => absurd y z, fun _ => ⟨fun y => absurd rfl y, fun _ => ?_⟩⟩
      refine nextByte_s hT ha ?_
      by_cases k : len ≤ sk tx len a
      · rw [if_pos k] at he
        have e : bt tx len (sk tx len a) = -1 := by unfold bt; exact if_neg (by omega)
        rw [e]
        exact ⟨fun _ => hS _ _ he.symm _ _ _ _ hC hR, fun y => absurd (by decide) y⟩
      · rw [if_neg k] at he
        have hb := (hT.2 (sk tx len a) (by omega)).2
        have e : bt tx len (sk tx len a) = nI (tx (sk tx len a)) := by unfold bt; exact if_pos (by omega)
        rw [e]
        refine ⟨fun y => absurd y (nI_pos (by omega)), fun _ => ?_⟩
        refine readStatement_s hT hs (sk_sk a ha) hO hC hR (fun c o hp b hc1 hl1 L P cs rows hb => ?_) (fun b hc' hl' dd' hp cs rows hC' hR' => ?_)
        · rw [hp] at he
          have hbad := bad_ne ((pStm_f (tx := tx) hO (hc := hc) (hl := hl) hs).1 c o hp).1
          exact read_E hbad (hF c o he.symm _ _ _ _ _ _ _ _ _ _ _)
        · rw [hp] at he
          obtain ⟨q1, q2, q3, q4, q5, q6⟩ := (pStm_f (tx := tx) hO (hc := hc) (hl := hl) hs).2 _ _ _ _ hp
          rw [nI_1, ← q4, ← q5, ← q6]
          exact read_L hT hF hS f (x + 1) b hc' hl' dd' cs rows (by omega) (by omega) q1 q3 hC' hR' he
    · have z : nI len ≤ nI x := nI_le g (by omega)
      refine ⟨fun _ => ?_, fun y => absurd z y⟩
      have e : a = len := by omega
      have e2 : sk tx len a = a := by rw [e]; exact run_end (Nat.le_refl _)
      rw [if_pos (by omega), e2] at he
      exact hS _ _ he.symm _ _ _ _ hC hR
end CRE
