/-! THE REFERENCE: its plans -/
theorem FLt_up {q : Pl} {p line : Nat} (h : FLt q p line) : FLt q (p + 1) 0 := fun k hk => by have := h k hk; omega
theorem FLt_lyL {q : Pl} {p : Nat} {f : Nat → Nat → Bool} (h : FLt q p 0) : ∀ k, FLt (lyL p f q k) p k
  | 0 => h
  | k + 1 => FLt_addL (FLt_lyL h k)
theorem FLt_lyP {d : Nat → Int32} {sg : Nat → Nat} : ∀ p, FLt (lyP d sg p) p 0
  | 0 => fun k hk => absurd hk (Nat.not_lt_zero _)
  | p + 1 => FLt_up (FLt_lyL (FLt_lyP p) _)
theorem FLt_lyB {d : Nat → Int32} : ∀ p, FLt (lyB d p) p 0
  | 0 => fun k hk => absurd hk (Nat.not_lt_zero _)
  | p + 1 => FLt_up (FLt_lyL (FLt_lyB p) _)
theorem must_0 {d : Nat → Int32} {st : Bool} : must d st 0 = false := rfl
theorem onP_0 {q : Pl} (h : q.1 = 0) : onP q = 0 := if_pos h
theorem en_0 {d : Nat → Int32} {p c : Nat} {nx : Nat → Nat} {i : Nat} : en d p c nx i 0 = false := rfl
/-- the reference's whole plan -/
def MPlan (d : Nat → Int32) (q : Pl) (sg : Nat → Nat) (lines : Nat → Nat → Int32) (pages : Int32) (setting fp fl sz bc ec : Nat → Int32) (po : Nat → Nat → Int32) : Prop :=
  MLn d lines ∧ (∀ p, p < dP d → setting p = nI (sg p)) ∧ (∀ p, p < dP d → sg p < 3) ∧ PlOk d q (dP d) ∧ MPl d q (fun p => cnt d p (sg p)) (Ld (fun p => cnt d p (sg p)) (dP d) 0) pages fp fl sz bc ec po
theorem MPl_mono {d : Nat → Int32} {q : Pl} {cf : Nat → Nat} {L L' : Nat → Nat → Prop} {pages : Int32} {fp fl sz bc ec : Nat → Int32} {po : Nat → Nat → Int32} (hL : ∀ p l, L' p l → L p l) (h : MPl d q cf L pages fp fl sz bc ec po) : MPl d q cf L' pages fp fl sz bc ec po := ⟨h.1, h.2.1, fun p l hh => h.2.2 p l (hL p l hh)⟩
section MLY
variable {d : Nat → Int32} {lines : Nat → Nat → Int32} {sg : Nat → Nat} {setting : Nat → Int32} {p : Nat}
theorem pages_in {Post : Int32 → (Nat → Int32) → (Nat → Int32) → (Nat → Int32) → (Nat → Int32) → (Nat → Int32) → (Nat → Nat → Int32) → Prop} {K : Int32 → (Nat → Int32) → (Nat → Int32) → (Nat → Int32) → (Nat → Int32) → (Nat → Int32) → (Nat → Nat → Int32) → Int32 → Prop} {q : Pl} (hO : OkB d) (hM : MLn d lines) (hp : p < dP d) (hs : sg p < 3) (hset : setting p = nI (sg p)) (hq : PlIn d q (p + 1)) (hb : q.1 + cnt d p (sg p) ≤ 480) (hF : FLt q p 0)
    (hK : ∀ pages fp fl sz bc ec po, MPl d (lyL p (fun line n => must d (sta d p line) n) q (cnt d p (sg p))) (fun p => cnt d p (sg p)) (Ld (fun p => cnt d p (sg p)) p (cnt d p (sg p))) pages fp fl sz bc ec po → K pages fp fl sz bc ec po (nI (p + 1))) :
    ∀ (r k : Nat) (pages : Int32) (fp fl sz bc ec : Nat → Int32) (po : Nat → Nat → Int32), k + r = cnt d p (sg p) → MPl d (lyL p (fun line n => must d (sta d p line) n) q k) (fun p => cnt d p (sg p)) (Ld (fun p => cnt d p (sg p)) p k) pages fp fl sz bc ec po →
      wpX7_layPages_L19 d lines setting Post K (r + 1) pages fp fl sz bc ec po (nI p) (nI k)
  | 0, k, pages, fp, fl, sz, bc, ec, po, hk, hA => by
    have h16 := hO.p16
    have hc := cnt_le hO hp (sg p)
    unfold wpX7_layPages_L19
    rw [nI_clamp (show p < 2 ^ 31 by omega), hset, nI_clamp (by omega), hM p hp _ hs]
    have a : nI (cnt d p (sg p)) ≤ nI k := by rw [nI_leI (by omega) (by omega)]; omega
    refine ⟨vp_in_nI (by omega) (by decide), vp_in_nI (by omega) (by decide), vp_in_nI (by omega) (by decide), fun _ => ?_, fun z => absurd a z⟩
    rw [show k = cnt d p (sg p) by omega] at hA
    rw [nI_1]
    exact hK _ _ _ _ _ _ _ hA
  | r + 1, k, pages, fp, fl, sz, bc, ec, po, hk, hA => by
    have h16 := hO.p16
    have h40 := hO.h40
    have hc := cnt_le hO hp (sg p)
    unfold wpX7_layPages_L19
    have hset' := hset
    rw [nI_clamp (show p < 2 ^ 31 by omega), hset, nI_clamp (by omega), hM p hp _ hs]
    have a : ¬ nI (cnt d p (sg p)) ≤ nI k := by rw [nI_leI (by omega) (by omega)]; omega
    refine ⟨vp_in_nI (by omega) (by decide), vp_in_nI (by omega) (by decide), vp_in_nI (by omega) (by decide), fun z => absurd z a, fun _ => ?_⟩
    have hpg := lyL_pages p (fun line n => must d (sta d p line) n) q k
    have hin := PlIn_lyL (f := fun line n => must d (sta d p line) n) hO hq (Nat.lt_succ_self p) (fun line m h => must_H hO _ h) k (by omega)
    have hon := hin.on
    rw [onPage_m (by omega) hA, must_m hO hp (by omega) hon]
    refine laysLine_s hO hM hp hs (by omega) hset' hin (by omega) (fun z => ?_) (FLt_lyL hF k) hA (fun pages fp fl sz bc ec po hA' => ?_)
    · intro y
      rw [onP_0 y, must_0] at z
      cases z
    · rw [nI_1]
      exact pages_in hO hM hp hs hset hq hb hF hK r (k + 1) _ _ _ _ _ _ _ (by omega) hA'
theorem pages_L {Post : Int32 → (Nat → Int32) → (Nat → Int32) → (Nat → Int32) → (Nat → Int32) → (Nat → Int32) → (Nat → Nat → Int32) → Prop} (hO : OkB d) (hM : MLn d lines) (hset : ∀ p, p < dP d → setting p = nI (sg p) ∧ sg p < 3)
    (h : ∀ pages fp fl sz bc ec po, MPlan d (lyP d sg (dP d)) sg lines pages setting fp fl sz bc ec po → Post pages fp fl sz bc ec po) :
    ∀ (r p : Nat) (pages : Int32) (fp fl sz bc ec : Nat → Int32) (po : Nat → Nat → Int32), p + r = dP d → MPl d (lyP d sg p) (fun p => cnt d p (sg p)) (Ld (fun p => cnt d p (sg p)) p 0) pages fp fl sz bc ec po →
      wpX7_layPages_L7 d lines setting Post (r + 1) pages fp fl sz bc ec po (nI p)
  | 0, p, pages, fp, fl, sz, bc, ec, po, hp, hA => by
    have h16 := hO.p16
    unfold wpX7_layPages_L7
    rw [show d (4 : Int32).toNatClampNeg = nI (dP d) from hO.p]
    have a : nI (dP d) ≤ nI p := by rw [nI_leI (by omega) (by omega)]; omega
    refine ⟨vp_in_nI (n := 4) (by decide) (by decide), fun _ => ?_, fun z => absurd a z⟩
    rw [show p = dP d by omega] at hA
    exact h _ _ _ _ _ _ _ ⟨hM, fun p hp => (hset p hp).1, fun p hp => (hset p hp).2, lyP_ok hO sg (Nat.le_refl _), hA⟩
  | r + 1, p, pages, fp, fl, sz, bc, ec, po, hp, hA => by
    have h16 := hO.p16
    have hpp : p < dP d := by omega
    unfold wpX7_layPages_L7
    rw [show d (4 : Int32).toNatClampNeg = nI (dP d) from hO.p]
    have a : ¬ nI (dP d) ≤ nI p := by rw [nI_leI (by omega) (by omega)]; omega
    have hpg := lyP_pages hO sg p (by omega)
    have hc := cnt_le hO hpp (sg p)
    refine ⟨vp_in_nI (n := 4) (by decide) (by decide), fun z => absurd z a, fun _ => ⟨cnt d p (sg p) + 1, ?_⟩⟩
    refine pages_in hO hM hpp (hset p hpp).2 (hset p hpp).1 ((PlIn_lyP hO sg p (by omega)).up (by omega)) (by omega) (FLt_lyP p) (fun pages fp fl sz bc ec po hA' => ?_) (cnt d p (sg p)) 0 pages fp fl sz bc ec po (by omega) hA
    exact pages_L hO hM hset h r (p + 1) _ _ _ _ _ _ _ (by omega) (MPl_mono (fun p' l' hL => by
      unfold Ld at hL ⊢
      rcases Nat.lt_or_ge p' p with g | g
      · omega
      · have e : p' = p := by omega
        subst e
        rcases hL with ⟨_, h2⟩ | ⟨_, h2⟩
        · exact Or.inr ⟨rfl, h2⟩
        · exact absurd h2 (Nat.not_lt_zero _)) hA')
theorem layPages_s {pages : Int32} {fp fl sz bc ec : Nat → Int32} {po : Nat → Nat → Int32} {Post : Int32 → (Nat → Int32) → (Nat → Int32) → (Nat → Int32) → (Nat → Int32) → (Nat → Int32) → (Nat → Nat → Int32) → Prop} (hO : OkB d) (hM : MLn d lines) (hset : ∀ p, p < dP d → setting p = nI (sg p) ∧ sg p < 3)
    (h : ∀ pages fp fl sz bc ec po, MPlan d (lyP d sg (dP d)) sg lines pages setting fp fl sz bc ec po → Post pages fp fl sz bc ec po) : wpX7_layPages pages d lines setting fp fl sz bc ec po Post :=
  ⟨_, pages_L hO hM hset h (dP d) 0 0 fp fl sz bc ec po (by omega) ⟨rfl, fun k hk => absurd hk (Nat.not_lt_zero _), fun p l hL => by unfold Ld at hL; omega⟩⟩
theorem plainM_L {Post : Int32 → (Nat → Int32) → (Nat → Nat → Int32) → (Nat → Int32) → (Nat → Int32) → (Nat → Int32) → (Nat → Int32) → (Nat → Int32) → (Nat → Int32) → (Nat → Nat → Int32) → Prop} {pages : Int32} {ll fp fl sz bc ec : Nat → Int32} {po : Nat → Nat → Int32} (hO : OkB d) (hM : MLn d lines)
    (h : ∀ pages st fp fl sz bc ec po, MPlan d (lyP d sg0 (dP d)) sg0 lines pages st fp fl sz bc ec po → Post pages ll lines st fp fl sz bc ec po) :
    ∀ (r p : Nat) (st : Nat → Int32), p + r = dP d → (∀ q, q < p → st q = nI 0) → wpX7_layPlain_L6 d Post (r + 1) pages ll lines st fp fl sz bc ec po (nI p)
  | 0, p, st, hp, hA => by
    have h16 := hO.p16
    unfold wpX7_layPlain_L6
    rw [show d (4 : Int32).toNatClampNeg = nI (dP d) from hO.p]
    have a : nI (dP d) ≤ nI p := by rw [nI_leI (by omega) (by omega)]; omega
    refine ⟨vp_in_nI (n := 4) (by decide) (by decide), fun _ => ?_, fun z => absurd a z⟩
    exact layPages_s (sg := sg0) hO hM (fun q hq => ⟨hA q (by omega), Nat.zero_lt_succ 2⟩) (fun pages fp fl sz bc ec po hA' => h _ _ _ _ _ _ _ _ hA')
  | r + 1, p, st, hp, hA => by
    have h16 := hO.p16
    unfold wpX7_layPlain_L6
    rw [show d (4 : Int32).toNatClampNeg = nI (dP d) from hO.p]
    have a : ¬ nI (dP d) ≤ nI p := by rw [nI_leI (by omega) (by omega)]; omega
    refine ⟨vp_in_nI (n := 4) (by decide) (by decide), fun z => absurd z a, fun _ => ⟨vp_in_nI (by omega) (by decide), ?_⟩⟩
    rw [nI_clamp (by omega), nI_1]
    refine plainM_L hO hM h r (p + 1) _ (by omega) (fun q hq => ?_)
    by_cases g : q = p
    · subst g; rw [pk_us]; rfl
    · rw [pk_un g]; exact hA q (by omega)
theorem layPlainM_s {Post : Int32 → (Nat → Int32) → (Nat → Nat → Int32) → (Nat → Int32) → (Nat → Int32) → (Nat → Int32) → (Nat → Int32) → (Nat → Int32) → (Nat → Int32) → (Nat → Nat → Int32) → Prop} {pages : Int32} {ll fp fl sz bc ec : Nat → Int32} {po : Nat → Nat → Int32} (hO : OkB d)
    (h : ∀ pages ll lines st fp fl sz bc ec po, MPlan d (lyP d sg0 (dP d)) sg0 lines pages st fp fl sz bc ec po → Post pages ll lines st fp fl sz bc ec po) : wpX7_layPlain pages d ll lines setting fp fl sz bc ec po Post := by
  unfold wpX7_layPlain
  refine layAll_s hO (fun ll' lines' hM => ⟨dP d + 1, ?_⟩)
  exact plainM_L hO hM (fun pages st fp fl sz bc ec po hA => h _ _ _ _ _ _ _ _ _ _ hA) (dP d) 0 setting (by omega) (fun q hq => absurd hq (Nat.not_lt_zero _))
/-! the best plan -/
theorem best_in {Post : Int32 → (Nat → Int32) → (Nat → Nat → Int32) → (Nat → Nat → Int32) → (Nat → Nat → Nat → Nat → Int32) → (Nat → Int32) → (Nat → Int32) → (Nat → Int32) → (Nat → Int32) → (Nat → Int32) → (Nat → Int32) → (Nat → Nat → Int32) → Prop} {K : Int32 → (Nat → Int32) → (Nat → Nat → Int32) → (Nat → Nat → Int32) → (Nat → Nat → Nat → Nat → Int32) → (Nat → Int32) → (Nat → Int32) → (Nat → Int32) → (Nat → Int32) → (Nat → Int32) → (Nat → Int32) → (Nat → Nat → Int32) → Int32 → Prop} {ll st : Nat → Int32} {CA : Nat → Nat → Int32} {W : (Nat → Nat → Nat → Nat → Int32)} {q : Pl} {s : Nat} (hO : OkB d) (hM : MLn d lines) (hp : p < dP d) (hs : s < 3) (hsg : sg p = s) (hset : st p = nI s) (hW : WI d p s (VR d (dP d - (p + 1))) (cnt d p s) W) (hq : PlIn d q (p + 1)) (hb : q.1 + cnt d p s ≤ 480) (hF : FLt q p 0)
    (hK : ∀ pages fp fl sz bc ec po, MPl d (lyL p (enB d p s) q (cnt d p s)) (fun p => cnt d p (sg p)) (Ld (fun p => cnt d p (sg p)) p (cnt d p s)) pages fp fl sz bc ec po → K pages ll lines CA W st fp fl sz bc ec po (nI (p + 1))) :
    ∀ (r k : Nat) (pages : Int32) (fp fl sz bc ec : Nat → Int32) (po : Nat → Nat → Int32), k + r = cnt d p s → MPl d (lyL p (enB d p s) q k) (fun p => cnt d p (sg p)) (Ld (fun p => cnt d p (sg p)) p k) pages fp fl sz bc ec po →
      wpX7_layBest_L83 d Post K (r + 1) pages ll lines CA W st fp fl sz bc ec po (nI p) (nI s) (nI k)
  | 0, k, pages, fp, fl, sz, bc, ec, po, hk, hA => by
    have h16 := hO.p16
    have hc := cnt_le hO hp s
    unfold wpX7_layBest_L83
    rw [nI_clamp (show p < 2 ^ 31 by omega), nI_clamp (show s < 2 ^ 31 by omega), hM p hp _ hs]
    have a : nI (cnt d p s) ≤ nI k := by rw [nI_leI (by omega) (by omega)]; omega
    refine ⟨vp_in_nI (by omega) (by decide), vp_in_nI (by omega) (by decide), fun _ => ?_, fun z => absurd a z⟩
    rw [show k = cnt d p s by omega] at hA
    rw [nI_1]
    exact hK _ _ _ _ _ _ _ hA
  | r + 1, k, pages, fp, fl, sz, bc, ec, po, hk, hA => by
    have h16 := hO.p16
    have h40 := hO.h40
    have hc := cnt_le hO hp s
    unfold wpX7_layBest_L83 wpX7_layBest_b136
    rw [nI_clamp (show p < 2 ^ 31 by omega), nI_clamp (show s < 2 ^ 31 by omega), hM p hp _ hs]
    have a : ¬ nI (cnt d p s) ≤ nI k := by rw [nI_leI (by omega) (by omega)]; omega
    refine ⟨vp_in_nI (by omega) (by decide), vp_in_nI (by omega) (by decide), fun z => absurd z a, fun _ => ?_⟩
    have hpg := lyL_pages p (enB d p s) q k
    have hin := PlIn_lyL (f := enB d p s) hO hq (Nat.lt_succ_self p) (fun line m h => by unfold enB en; rw [must_H hO _ h]; rfl) k (by omega)
    have hon := hin.on
    rw [onPage_m (by omega) hA, stay_m hO hp hs (by omega) hon]
    refine ⟨vp_in_nI (by omega) (by decide), vp_in_nI (by omega) (by decide), vp_in_nI (by omega) (by decide), ?_⟩
    rw [onPage_m (by omega) hA, nI_clamp (show k < 2 ^ 31 by omega), nI_clamp (show onP (lyL p (enB d p s) q k) < 2 ^ 31 by omega)]
    refine ⟨vp_in_nI (by omega) (by decide), ?_⟩
    have w1 := hW (cnt d p s - k) (by omega) _ hon
    rw [show cnt d p s - (cnt d p s - k) = k by omega, show cnt d p s - k = (cnt d p s - (k + 1)) + 1 by omega] at w1
    have bnd := Wl_le hO p (cnt d p s) (fun n => VR_lt hO (show dP d - (p + 1) ≤ dP d by omega) n) (cnt d p s - (k + 1) + 1) (onP (lyL p (enB d p s) q k))
    have bnd2 := Wl_le hO p (cnt d p s) (fun n => VR_lt hO (show dP d - (p + 1) ≤ dP d by omega) n) (cnt d p s - (k + 1)) (onP (lyL p (enB d p s) q k) + 1)
    have b4 : (cnt d p s - (k + 1) + 1) * 42957 ≤ 1288710 := Nat.le_trans (Nat.mul_le_mul_right _ (show cnt d p s - (k + 1) + 1 ≤ 30 by omega)) (by decide)
    have b5 : (cnt d p s - (k + 1)) * 42957 ≤ 1288710 := Nat.le_trans (Nat.mul_le_mul_right _ (show cnt d p s - (k + 1) ≤ 30 by omega)) (by decide)
    have hwl := Wl_en d p (cnt d p s) (VR d (dP d - (p + 1))) (cnt d p s - (k + 1)) (onP (lyL p (enB d p s) q k))
    have hen : en d p (cnt d p s) (VR d (dP d - (p + 1))) (cnt d p s - (k + 1)) (onP (lyL p (enB d p s) q k)) = enB d p s k (onP (lyL p (enB d p s) q k)) := rfl
    rw [hen] at hwl
    rw [w1]
    -- the decision
    have go : ∀ e : Bool, e = enB d p s k (onP (lyL p (enB d p s) q k)) → wpX7_laysLine pages d lines st fp fl sz bc ec po (nI p) (nI k) (bI e) (fun pages_16 firstParagraph_16 firstLine_16 pageLines_16 beginCosts_16 endCosts_16 pageOf_16 => wpX7_layBest_L83 d Post K (r + 1) pages_16 ll lines CA W st firstParagraph_16 firstLine_16 pageLines_16 beginCosts_16 endCosts_16 pageOf_16 (nI p) (nI s) (nI k + (1 : Int32))) := by
      intro e he
      refine laysLine_s (sg := sg) hO hM hp (by rw [hsg]; exact hs) (by rw [hsg]; omega) (by rw [hsg]; exact hset) hin (by omega) (fun z => ?_) (FLt_lyL hF k) hA (fun pages fp fl sz bc ec po hA' => ?_)
      · intro y
        rw [he, onP_0 y] at z
        unfold enB at z
        rw [en_0] at z
        cases z
      · rw [nI_1]
        rw [he] at hA'
        exact best_in hO hM hp hs hsg hset hW hq hb hF hK r (k + 1) _ _ _ _ _ _ _ (by omega) hA'
    -- stay is within?
    have dec : ∀ v : Int32, (v = nI (Wl d p (cnt d p s) (VR d (dP d - (p + 1))) (cnt d p s - (k + 1) + 1) (onP (lyL p (enB d p s) q k))) ↔ enB d p s k (onP (lyL p (enB d p s) q k)) = false) → (v = nI (Wl d p (cnt d p s) (VR d (dP d - (p + 1))) (cnt d p s - (k + 1) + 1) (onP (lyL p (enB d p s) q k))) → wpX7_laysLine pages d lines st fp fl sz bc ec po (nI p) (nI k) (0 : Int32) (fun pages_16 firstParagraph_16 firstLine_16 pageLines_16 beginCosts_16 endCosts_16 pageOf_16 => wpX7_layBest_L83 d Post K (r + 1) pages_16 ll lines CA W st firstParagraph_16 firstLine_16 pageLines_16 beginCosts_16 endCosts_16 pageOf_16 (nI p) (nI s) (nI k + (1 : Int32)))) ∧ (¬ v = nI (Wl d p (cnt d p s) (VR d (dP d - (p + 1))) (cnt d p s - (k + 1) + 1) (onP (lyL p (enB d p s) q k))) → wpX7_laysLine pages d lines st fp fl sz bc ec po (nI p) (nI k) (1 : Int32) (fun pages_16 firstParagraph_16 firstLine_16 pageLines_16 beginCosts_16 endCosts_16 pageOf_16 => wpX7_layBest_L83 d Post K (r + 1) pages_16 ll lines CA W st firstParagraph_16 firstLine_16 pageLines_16 beginCosts_16 endCosts_16 pageOf_16 (nI p) (nI s) (nI k + (1 : Int32)))) := by
      intro v hv
      refine ⟨fun z => go false (hv.mp z).symm, fun z => go true ?_⟩
      cases hh : enB d p s k (onP (lyL p (enB d p s) q k))
      · exact absurd (hv.mpr hh) z
      · rfl
    generalize (cnt d p s - (k + 1) + 1) * 42957 = X at bnd b4
    generalize (cnt d p s - (k + 1)) * 42957 = Y at bnd2 b5
    have esta : cnt d p s - (cnt d p s - (k + 1) + 1) = k := by omega
    have edef : enB d p s k (onP (lyL p (enB d p s) q k)) = (must d (sta d p k) (onP (lyL p (enB d p s) q k)) || (canE d (onP (lyL p (enB d p s) q k)) && decide (eC d (sta d p k) (onP (lyL p (enB d p s) q k)) + (bC d p k (cnt d p s) + Wl d p (cnt d p s) (VR d (dP d - (p + 1))) (cnt d p s - (k + 1)) 1) < Wl d p (cnt d p s) (VR d (dP d - (p + 1))) (cnt d p s - (k + 1)) (onP (lyL p (enB d p s) q k) + 1)))) := by
      unfold enB en
      rw [esta]
    cases hm : must d (sta d p k) (onP (lyL p (enB d p s) q k))
    · have hlt : onP (lyL p (enB d p s) q k) < dH d := by
        rcases Nat.lt_or_ge (onP (lyL p (enB d p s) q k)) (dH d) with g | g
        · exact g
        · rw [must_H hO _ g] at hm; cases hm
      have w2 := hW (cnt d p s - (k + 1)) (by omega) (onP (lyL p (enB d p s) q k) + 1) (by omega)
      rw [show cnt d p s - (cnt d p s - (k + 1)) = k + 1 by omega] at w2
      rw [if_neg (by decide), w2]
      refine dec _ ?_
      rw [nI_eq (by omega) (by omega), hwl, esta]
      rw [hm, Bool.false_or] at edef
      cases hh : enB d p s k (onP (lyL p (enB d p s) q k))
      · rw [if_neg (by decide)]
        simp
      · rw [hh] at edef
        have := edef.symm
        simp only [Bool.and_eq_true, decide_eq_true_eq] at this
        rw [if_pos rfl]
        constructor
        · intro z; omega
        · intro z; cases z
    · rw [if_pos rfl]
      refine dec _ ?_
      rw [nI_eq (by decide) (by omega)]
      rw [hm, Bool.true_or] at edef
      constructor
      · intro z; omega
      · intro z; rw [edef] at z; cases z
theorem alw_bS {nx : Nat → Nat} (hO : OkB d) (hp : p < dP d) (n : Nat) : alw d p (bS d p nx n) = true := by
  by_cases e : dF d p = -1
  · exact alw_free e _
  · have hb := bS_lt hO hp nx n
    have one : ∀ k, k < 3 → dF d p = nI k → alw d p (bS d p nx n) = true := fun k hk ek => by
      have eb : bS d p nx n = k := by unfold bS; rw [if_neg e, ek, nz_nI (by omega)]
      rw [eb, alw_fix ek hk hk, decide_eq_true rfl]
    rcases hO.f hp with z | z | z | z
    · exact absurd z e
    · exact one 0 (by decide) z
    · exact one 1 (by decide) z
    · exact one 2 (by decide) z
theorem bS_first {nx : Nat → Nat} (hO : OkB d) (hp : p < dP d) (n : Nat) {s : Nat} (hs : s < bS d p nx n) (ha : alw d p s = true) : cS d p nx s n ≠ cS d p nx (bS d p nx n) n := by
  have hb := bS_lt hO hp nx n
  by_cases e : dF d p = -1
  · unfold bS at hs ⊢
    rw [if_pos e] at hs ⊢
    by_cases g1 : cS d p nx 1 n < cS d p nx 0 n
    · rw [if_pos g1] at hs ⊢
      by_cases g2 : cS d p nx 2 n < cS d p nx 1 n
      · rw [if_pos g2] at hs ⊢
        have : s = 0 ∨ s = 1 := by omega
        rcases this with rfl | rfl <;> omega
      · rw [if_neg g2] at hs ⊢
        have : s = 0 := by omega
        subst this; omega
    · rw [if_neg g1] at hs ⊢
      by_cases g2 : cS d p nx 2 n < cS d p nx 0 n
      · rw [if_pos g2] at hs ⊢
        have : s = 0 ∨ s = 1 := by omega
        rcases this with rfl | rfl <;> omega
      · rw [if_neg g2] at hs
        omega
  · exfalso
    have one : ∀ k, k < 3 → dF d p = nI k → False := fun k hk ek => by
      have eb : bS d p nx n = k := by unfold bS; rw [if_neg e, ek, nz_nI (by omega)]
      rw [alw_fix ek hk (by omega)] at ha
      have := of_decide_eq_true ha
      omega
    rcases hO.f hp with z | z | z | z
    · exact absurd z e
    · exact one 0 (by decide) z
    · exact one 1 (by decide) z
    · exact one 2 (by decide) z
end MLY
