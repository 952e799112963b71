/-! THE REFERENCE'S READER: paragraphs, statements -/
section MRC
variable {tx : Nat → Nat} {len at_ : Nat} {text : Nat → Int32} {eo a1 a2 : Int32} {dd : Nat → Int32}
/-- the draft while the last paragraph's words come -/
def RM (dd : Nat → Int32) (hd pg : Bool) (k : Nat) (f : Nat → Nat) (D : Nat → Int32) : Prop := ∀ j, j < 555 → D j = if j = 11 + 34 * dP dd then bI hd else if j = 11 + 34 * dP dd + 1 then bI pg else if j = 11 + 34 * dP dd + 2 then -1 else if 11 + 34 * dP dd + 4 ≤ j ∧ j < 11 + 34 * dP dd + 4 + k then nI (f (j - (11 + 34 * dP dd + 4))) else dd j
section PARM
variable {Post : Int32 → Int32 → Int32 → Int32 → (Nat → Int32) → Prop} {hd pg : Bool}
theorem RM_add {k v : Nat} {f : Nat → Nat} {D : Nat → Int32} (h : RM dd hd pg k f D) : RM dd hd pg (k + 1) (upN f k v) (upd D (11 + 34 * dP dd + 4 + k) (nI v)) := by
  intro j hj
  by_cases g : j = 11 + 34 * dP dd + 4 + k
  · subst g
    rw [pk_us, if_neg (by omega), if_neg (by omega), if_neg (by omega), if_pos (by omega), show 11 + 34 * dP dd + 4 + k - (11 + 34 * dP dd + 4) = k by omega, upN_s]
  · rw [pk_un g, h j hj]
    by_cases g1 : 11 + 34 * dP dd + 4 ≤ j ∧ j < 11 + 34 * dP dd + 4 + k
    · rw [if_neg (by omega), if_neg (by omega), if_neg (by omega), if_pos g1, if_neg (by omega), if_neg (by omega), if_neg (by omega), if_pos (by omega), upN_n (by omega)]
    · rw [if_neg g1, if_neg (show ¬ (11 + 34 * dP dd + 4 ≤ j ∧ j < 11 + 34 * dP dd + 4 + (k + 1)) by omega)]
theorem mpar_end (hO : OkB dd) (hP : dP dd < 16) {n : Nat} (hn : n ≤ 30) {f : Nat → Nat} {D : Nat → Int32} {p e ns : Int32} (h : RM dd hd pg n f D) (hS : ∀ D, E5 (parD dd hd pg n f) D → Post p e eo ns D) : wpX7_readParagraph_b175 (nI len) text a1 a2 Post p e eo ns D (nI (11 + 34 * dP dd)) (nI n) := by
  unfold wpX7_readParagraph_b175
  rw [li3, nI_add, nI_clamp (by omega)]
  have e4 : upd D (11 + 34 * dP dd + 3) (nI n) (4 : Int32).toNatClampNeg = nI (dP dd) := by
    rw [show (4 : Int32).toNatClampNeg = 4 from rfl, pk_un (by omega), h 4 (by decide), if_neg (by omega), if_neg (by omega), if_neg (by omega), if_neg (by omega)]
    exact hO.p
  rw [e4, nI_1, show (4 : Int32).toNatClampNeg = 4 from rfl]
  refine ⟨vp_in_nI (by omega) (by decide), vp_in_nI (n := 4) (by decide) (by decide), vp_in_nI (n := 4) (by decide) (by decide), hS _ (fun j hj => ?_)⟩
  unfold parD
  by_cases g4 : j = 4
  · rw [g4, pk_us, if_pos rfl]
  · rw [pk_un g4, if_neg g4]
    by_cases g3 : j = 11 + 34 * dP dd + 3
    · rw [g3, pk_us, if_neg (by omega), if_neg (by omega), if_neg (by omega), if_pos rfl]
    · rw [pk_un g3, h j hj]
      by_cases q0 : j = 11 + 34 * dP dd
      · rw [if_pos q0, if_pos q0]
      · rw [if_neg q0, if_neg q0]
        by_cases q1 : j = 11 + 34 * dP dd + 1
        · rw [if_pos q1, if_pos q1]
        · rw [if_neg q1, if_neg q1]
          by_cases q2 : j = 11 + 34 * dP dd + 2
          · rw [if_pos q2, if_pos q2]
          · rw [if_neg q2, if_neg q2, if_neg g3]
theorem mpar_err {P : Nat} (hP : P < 16) {e : Int32} (he : e ≠ 0) {K : Int32 → Int32 → Int32 → Int32 → (Nat → Int32) → Int32 → Int32 → Prop} {p ns x4 x5 : Int32} {D : Nat → Int32} (h : ∀ D, Post p e eo ns D) : wpX7_readParagraph_b131 (nI len) text a1 a2 Post K p e eo ns D (nI (11 + 34 * P)) x4 x5 := by
  unfold wpX7_readParagraph_b131
  rw [good_n he]
  refine ⟨fun _ => ?_, fun z => absurd rfl z⟩
  unfold wpX7_readParagraph_b151
  rw [good_n he]
  refine ⟨fun _ => ?_, fun z => absurd rfl z⟩
  unfold wpX7_readParagraph_b175
  rw [li3, nI_add]
  exact ⟨vp_in_nI (by omega) (by decide), vp_in_nI (n := 4) (by decide) (by decide), vp_in_nI (n := 4) (by decide) (by decide), h _⟩
theorem mpar_L (hT : TX tx len text) (hO : OkB dd) (hP : dP dd < 16) {res : Rd (Nat × (Nat → Nat))}
    (hF : ∀ c o, res = .inl (c, o) → ∀ a ns D, a ≤ len → Post (nI a) c (nI o) ns D)
    (hS : ∀ a n f, res = .inr (a, n, f) → ∀ ns D, E5 (parD dd hd pg n f) D → Post (nI a) 0 eo ns D) :
    ∀ g k a f D ns, k + g = 31 → k ≤ 30 → a ≤ len → RM dd hd pg k f D → pWs tx len (dW dd - dS dd) g k a f = res → wpX7_readParagraph_L87 (nI len) text a1 a2 Post g (nI a) 0 eo ns D (nI (11 + 34 * dP dd)) (nI k)
  | 0, k, a, f, D, ns, hk, hk2, ha, hr, he => by omega
  | g + 1, k, a, f, D, ns, hk, hk2, ha, hr, he => by
    have h60 := hO.w60
    have h10 := hO.w10
    have h9 := hO.s9
    unfold wpX7_readParagraph_L87
    have e0 : D (0 : Int32).toNatClampNeg = nI (dW dd) := by
      rw [show (0 : Int32).toNatClampNeg = 0 from rfl, hr 0 (by decide), if_neg (by omega), if_neg (by omega), if_neg (by omega), if_neg (by omega)]
      exact hO.w
    have e2 : D (2 : Int32).toNatClampNeg = nI (dS dd) := by
      rw [show (2 : Int32).toNatClampNeg = 2 from rfl, hr 2 (by decide), if_neg (by omega), if_neg (by omega), if_neg (by omega), if_neg (by omega)]
      exact hO.s
    refine ⟨vp_in_nI (n := 0) (by decide) (by decide), vp_in_nI (n := 2) (by decide) (by decide), ?_⟩
    rw [e0, e2, sm_sub (by omega)]
    unfold pWs at he
    refine numberM_s (lo := 1) (hi := dW dd - dS dd) hT (by omega) (by omega) ha (fun y => absurd rfl y) (fun _ c o hn b ns hb => ?_) (fun _ b v hn => ?_)
    · have hbad := bad_ne (pNum_b ha hn).1
      rw [hn] at he
      dsimp only at he
      rw [good_n hbad]
      exact ⟨fun _ => mpar_err hP hbad (fun D => hF c o he.symm b ns D hb), fun z => absurd rfl z⟩
    · obtain ⟨hb, -, -, -⟩ := pNum_r ha hn
      rw [hn] at he
      dsimp only at he
      rw [good_0]
      refine ⟨fun z => absurd z (by decide), fun _ => ⟨fun z => ?_, fun z => ?_⟩⟩
      · have k30 : k < 30 := by
          rcases Nat.lt_or_ge k 30 with q | q
          · exact q
          · exact absurd (by rw [show k = 30 by omega]; rfl) z
        rw [if_neg (by omega)] at he
        unfold wpX7_readParagraph_b131
        rw [good_0]
        refine ⟨fun y => absurd y (by decide), fun _ => ?_⟩
        rw [li4, nI_add, nI_add, nI_clamp (by omega)]
        refine ⟨vp_in_nI (by omega) (by decide), ?_⟩
        unfold wpX7_readParagraph_b151
        rw [good_0]
        refine ⟨fun y => absurd y (by decide), fun _ => ahead_s hT hb ?_⟩
        rw [in_dg hT, nI_1]
        cases hd : isDg tx len (sk tx len b)
        · rw [hd, if_neg (by decide)] at he
          exact ⟨fun y => absurd rfl y, fun _ => mpar_end hO hP (by omega) (RM_add hr) (fun D hD => hS _ _ _ he.symm _ D hD)⟩
        · rw [hd, if_pos rfl] at he
          refine ⟨fun _ => mpar_L hT hO hP hF hS g (k + 1) (sk tx len b) _ _ _ (by omega) (by omega) (sk_le hb) (RM_add hr) ?_, fun y => absurd y (by decide)⟩
          rw [pWs_sk hb]
          exact he
      · have k30 : k = 30 := by
          rw [li30, nI_eq (by omega) (by omega)] at z
          exact z
        rw [if_pos k30] at he
        rw [report_0]
        exact mpar_err hP (by decide) (fun D => hF _ _ he.symm b _ D hb)
end PARM
theorem readParagraphM_s (hT : TX tx len text) (ha : at_ ≤ len) {start : Nat} {hd : Bool} {D : Nat → Int32} {ns : Int32} (hO : OkB dd) (hD : E5 dd D) {Post : Int32 → Int32 → Int32 → Int32 → (Nat → Int32) → Prop}
    (hF : ∀ c o, pPar tx len start at_ hd dd = .inl (c, o) → ∀ a ns D, a ≤ len → Post (nI a) c (nI o) ns D)
    (hS : ∀ a dd', pPar tx len start at_ hd dd = .inr (a, dd') → ∀ ns D, E5 dd' D → Post (nI a) 0 eo ns D) :
    wpX7_readParagraph (nI len) (nI at_) 0 eo ns text D (nI start) (bI hd) Post := by
  have h16 := hO.p16
  unfold wpX7_readParagraph wpX7_readParagraph_b18
  unfold pPar at hF hS
  have e4 : D (4 : Int32).toNatClampNeg = nI (dP dd) := (hD 4 (by decide)).trans hO.p
  rw [e4]
  refine ⟨vp_in_nI (n := 4) (by decide) (by decide), fun z => ?_, fun z => ?_⟩
  · have hP : dP dd < 16 := by
      rcases Nat.lt_or_ge (dP dd) 16 with g | g
      · exact g
      · exact absurd (by rw [show dP dd = 16 by omega]; rfl) z
    rw [if_neg (by omega)] at hF hS
    rw [good_0]
    refine ⟨fun _ => ⟨vp_in_nI (n := 4) (by decide) (by decide), ?_⟩, fun y => absurd y (by decide)⟩
    unfold wpX7_at
    dsimp only
    rw [show (11 : Int32) + 34 * nI (dP dd) = nI (11 + 34 * dP dd) by rw [li11, li34, pk_mul, nI_add], show nI (11 + 34 * dP dd) + 0 = nI (11 + 34 * dP dd) by rw [li0, nI_add, Nat.add_zero]]
    have go : wpX7_readParagraph_b55 (nI len) text (nI start) (bI hd) Post (nI at_) 0 eo ns D (nI (11 + 34 * dP dd)) 0 (nI (11 + 34 * dP dd)) (bI hd) := by
      unfold wpX7_readParagraph_b55
      rw [nI_clamp (by omega)]
      refine ⟨vp_in_nI (by omega) (by decide), takeWordM_s hT (by decide) ha ?_⟩
      have hw := pWd_2 (tx := tx) (w := 4) ha (by decide)
      have go2 : ∀ pg, (pWd tx len 4 at_).1 = pg → wpX7_readParagraph_b77 (nI len) text (nI start) (bI hd) Post (nI (pWd tx len 4 at_).2) 0 eo ns (upd D (11 + 34 * dP dd) (bI hd)) (nI (11 + 34 * dP dd)) 0 (nI (11 + 34 * dP dd) + 1) (bI pg) := fun pg hpg => by
        unfold wpX7_readParagraph_b77
        rw [nI_1, li2, nI_add, nI_clamp (by omega), nI_clamp (by omega)]
        refine ⟨vp_in_nI (by omega) (by decide), vp_in_nI (by omega) (by decide), 31, ?_⟩
        refine mpar_L (hd := hd) (pg := pg) hT hO hP (fun c o hr => ?_) (fun a n f hr => ?_) 31 0 (pWd tx len 4 at_).2 (fun _ => 0) _ _ rfl (by decide) hw.1 (fun j hj => ?_) rfl
        · rw [hr] at hF
          exact fun a ns D ha => hF c o rfl a ns D ha
        · rw [hr] at hS
          intro ns D hE
          rw [← hpg] at hE
          exact hS a _ rfl ns D hE
        · by_cases g2 : j = 11 + 34 * dP dd + 2
          · rw [g2, pk_us, if_neg (by omega), if_neg (by omega), if_pos rfl]
          · rw [pk_un g2]
            by_cases g1 : j = 11 + 34 * dP dd + 1
            · rw [g1, pk_us, if_neg (by omega), if_pos rfl]
            · rw [pk_un g1]
              by_cases g0 : j = 11 + 34 * dP dd
              · rw [g0, pk_us, if_pos rfl]
              · rw [pk_un g0, if_neg g0, if_neg g1, if_neg g2, if_neg (by omega)]
                exact hD j hj
      cases hpg : (pWd tx len 4 at_).1
      · exact ⟨fun _ => go2 false hpg, fun y => absurd rfl y⟩
      · exact ⟨fun y => absurd y (by decide), fun _ => go2 true hpg⟩
    cases hd
    · exact ⟨fun _ => go, fun y => absurd rfl y⟩
    · exact ⟨fun y => absurd y (by decide), fun _ => go⟩
  · have hP : dP dd = 16 := (nI_eq (b := 16) (by omega) (by decide)).mp z
    rw [if_pos hP] at hF
    rw [report_0, good_n (by decide)]
    exact ⟨fun y => absurd rfl y, fun _ => hF _ _ rfl at_ ns D ha⟩
end MRC
