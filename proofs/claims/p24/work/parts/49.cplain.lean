/-! THE CLASS: the plain plan, plans kept -/
section CPP
variable {d : Nat → Int32} {rows costs counts : Nat → Int32} {p : Nat}
theorem plain_lines {Post : Int32 → Int32 → (Nat → Int32) → (Nat → Int32) → (Nat → Int32) → (Nat → Int32) → (Nat → Int32) → Prop} {K7 : Int32 → Int32 → (Nat → Int32) → (Nat → Int32) → (Nat → Int32) → (Nat → Int32) → (Nat → Int32) → Int32 → Prop}
    {P PP a2 a3 : Int32} {qc qs : Nat → Int32} {q : Pl} {c : Nat} (hO : OkB d) (hR : CRows d rows) (hp : p < dP d) (hc : c ≤ 30) (hq : PlIn d q (p + 1)) (hb : q.1 + c ≤ 480)
    (hK : ∀ pages fl fp sz, CPl (lyL p (fun line n => must d (sta d p line) n) q c) pages fl fp sz → K7 pages PP qc fl fp qs sz (nI (p + 1))) :
    ∀ (r k : Nat) (pages : Int32) (fl fp sz : Nat → Int32), k + r = c → CPl (lyL p (fun line n => must d (sta d p line) n) q k) pages fl fp sz → wpX6_layPlain_L58 (nI (dH d)) P rows counts a2 a3 Post K7 (r + 1) pages PP qc fl fp qs sz (nI p) (nI c) (nI k)
  | 0, k, pages, fl, fp, sz, hk, hA => by
    have h16 := hO.p16
    unfold wpX6_layPlain_L58
    have a : nI c ≤ nI k := by rw [nI_leI (by omega) (by omega)]; omega
    refine ⟨fun _ => ?_, fun z => absurd a z⟩
    rw [nI_1]
    rw [show k = c by omega] at hA
    exact hK _ _ _ _ hA
  | r + 1, k, pages, fl, fp, sz, hk, hA => by
    have h16 := hO.p16
    have h40 := hO.h40
    unfold wpX6_layPlain_L58 wpX6_layPlain_b86 wpX6_layPlain_b87
    have a : ¬ nI c ≤ nI k := by rw [nI_leI (by omega) (by omega)]; omega
    refine ⟨fun z => absurd z a, fun _ => ?_⟩
    have hpg := lyL_pages p (fun line n => must d (sta d p line) n) q k
    have hin := PlIn_lyL (f := fun line n => must d (sta d p line) n) hO hq (Nat.lt_succ_self p) (fun line m h => must_H hO _ h) k (by omega)
    have hon := hin.on
    have go : ∀ st : Bool, st = sta d p k → wpX3_linesOnLastPage pages sz (fun r_4 => wpX0_mustEnd (nI (dH d)) r_4 (bI st) (fun r_5 => wpX3_addLine pages fl fp sz (nI p) (nI k) r_5 (fun q1_pages_6 q1_firstLines_6 q1_firstParagraphs_6 q1_sizes_6 => wpX6_layPlain_L58 (nI (dH d)) P rows counts a2 a3 Post K7 (r + 1) q1_pages_6 PP qc q1_firstLines_6 q1_firstParagraphs_6 qs q1_sizes_6 (nI p) (nI c) (nI k + 1)))) := by
      intro st hst
      rw [lastPage_e hA (by omega), mustEnd_e hO (by omega), hst]
      refine addLine_s hA (by omega) (fun pages' fl' fp' sz' h' => ?_)
      rw [nI_1]
      exact plain_lines hO hR hp hc hq hb hK r (k + 1) _ _ _ _ (by omega) h'
    refine ⟨fun z => ?_, fun z => ?_⟩
    · exact go false (by unfold sta; rw [decide_eq_false (fun e => z (by rw [e]; rfl))]; rfl)
    · have e : k = 0 := (nI_eq (by omega) (by decide)).mp z
      rw [beginsPage_e hO hR hp]
      cases hh : dB d p
      · exact ⟨fun _ => go false (by unfold sta; rw [hh, Bool.and_false]), fun z => absurd rfl z⟩
      · exact ⟨fun z => absurd z (by decide), fun _ => go true (by unfold sta; rw [hh, decide_eq_true e]; rfl)⟩
theorem plain_L {Post : Int32 → Int32 → (Nat → Int32) → (Nat → Int32) → (Nat → Int32) → (Nat → Int32) → (Nat → Int32) → Prop} {taken : Nat → Int32} {a2 a3 : Int32} {sg : Nat → Nat} (hO : OkB d) (hR : CRows d rows) (hL : CL d counts taken) (hsg : ∀ p, p < dP d → sg p < 3 ∧ (nI p = a2 → a3 = nI (sg p)) ∧ (nI p ≠ a2 → sg p = 0))
    (h : ∀ pages P qc fl fp qs sz, CPlan d (lyP d sg (dP d)) sg pages P qc fl fp qs sz → Post pages P qc fl fp qs sz) :
    ∀ (r p : Nat) (pages : Int32) (qc fl fp qs sz : Nat → Int32), p + r = dP d → CPl (lyP d sg p) pages fl fp sz → CSet d sg p qc qs →
      wpX6_layPlain_L7 (nI (dH d)) (nI (dP d)) rows counts a2 a3 Post (r + 1) pages (nI p) qc fl fp qs sz (nI p)
  | 0, p, pages, qc, fl, fp, qs, sz, hp, hA, hB => by
    have h16 := hO.p16
    unfold wpX6_layPlain_L7
    have a : nI (dP d) ≤ nI p := by rw [nI_leI (by omega) (by omega)]; omega
    refine ⟨fun _ => ?_, fun z => absurd a z⟩
    have e : p = dP d := by omega
    subst e
    exact h _ _ _ _ _ _ _ ⟨hA, rfl, hB, lyP_ok hO sg (Nat.le_refl _), fun p hp => (hsg p hp).1⟩
  | r + 1, p, pages, qc, fl, fp, qs, sz, hp, hA, hB => by
    have h16 := hO.p16
    have h40 := hO.h40
    have hpp : p < dP d := by omega
    unfold wpX6_layPlain_L7
    have a : ¬ nI (dP d) ≤ nI p := by rw [nI_leI (by omega) (by omega)]; omega
    refine ⟨fun z => absurd z a, fun _ => ?_⟩
    have hin := PlIn_lyP hO sg p (by omega)
    have hpg := lyP_pages hO sg p (by omega)
    have hs := (hsg p hpp).1
    have hc := cnt_le hO hpp (sg p)
    have go : wpX6_layPlain_b30 (nI (dH d)) (nI (dP d)) rows counts a2 a3 Post (wpX6_layPlain_L7 (nI (dH d)) (nI (dP d)) rows counts a2 a3 Post (r + 1)) pages (nI p) qc fl fp qs sz (nI p) (nI (sg p)) := by
      unfold wpX6_layPlain_b30
      rw [countOf_e hO hL hpp hs]
      refine setPar_s (sg := sg) (by omega) (fun qc' qs' g1 g2 g3 => ⟨cnt d p (sg p) + 1, ?_⟩)
      refine plain_lines hO hR hpp hc (hin.up (by omega)) (by omega) (fun pages' fl' fp' sz' hA' => ?_) (cnt d p (sg p)) 0 pages fl fp sz (by omega) hA
      refine plain_L hO hR hL hsg h r (p + 1) pages' qc' fl' fp' qs' sz' (by omega) hA' (fun j hj => ?_)
      by_cases g : j = p
      · subst g; exact ⟨g2, g3⟩
      · rw [(g1 j g).1, (g1 j g).2]; exact hB j (by omega)
    refine ⟨fun z => ?_, fun z => ?_⟩
    · rw [(hsg p hpp).2.2 z] at go; exact go
    · have e := (hsg p hpp).2.1 z
      rw [← e] at go
      exact go
theorem layPlain_s {Post : Int32 → Int32 → (Nat → Int32) → (Nat → Int32) → (Nat → Int32) → (Nat → Int32) → (Nat → Int32) → Prop} {taken qc fl fp qs sz : Nat → Int32} {pages PP a2 a3 : Int32} {sg : Nat → Nat} (hO : OkB d) (hR : CRows d rows) (hL : CL d counts taken) (hsg : ∀ p, p < dP d → sg p < 3 ∧ (nI p = a2 → a3 = nI (sg p)) ∧ (nI p ≠ a2 → sg p = 0))
    (h : ∀ pages P qc fl fp qs sz, CPlan d (lyP d sg (dP d)) sg pages P qc fl fp qs sz → Post pages P qc fl fp qs sz) : wpX6_layPlain (nI (dH d)) (nI (dP d)) rows counts pages PP qc fl fp qs sz a2 a3 Post := by
  unfold wpX6_layPlain wpX3_clear
  exact ⟨_, plain_L hO hR hL hsg h (dP d) 0 0 qc fl fp qs sz (by omega) ⟨rfl, fun k hk => absurd hk (Nat.not_lt_zero _)⟩ (fun p hp => absurd hp (Nat.not_lt_zero _))⟩
theorem sg0_ok (hO : OkB d) : ∀ p, p < dP d → sg0 p < 3 ∧ (nI p = (-1 : Int32) → (0 : Int32) = nI (sg0 p)) ∧ (nI p ≠ (-1 : Int32) → sg0 p = 0) := fun _ _ => ⟨Nat.zero_lt_succ 2, fun _ => rfl, fun _ => rfl⟩
theorem sg1_ok (hO : OkB d) {x s : Nat} (hx : x < dP d) (hs : s < 3) : ∀ p, p < dP d → sg1 x s p < 3 ∧ (nI p = nI x → nI s = nI (sg1 x s p)) ∧ (nI p ≠ nI x → sg1 x s p = 0) := fun p hp => by
  have h16 := hO.p16
  unfold sg1
  by_cases g : p = x
  · rw [if_pos g]
    exact ⟨hs, fun _ => rfl, fun z => absurd (by rw [g]) z⟩
  · rw [if_neg g]
    exact ⟨by decide, fun z => absurd ((nI_eq (by omega) (by omega)).mp z) g, fun _ => rfl⟩
/-- a plan that is kept: where it is fresh it is d's -/
def CKeep (d : Nat → Int32) (q : Pl) (sg : Nat → Nat) (fresh pages P : Int32) (counts fl fp settings sz : Nat → Int32) : Prop := fresh = nI 0 ∨ (fresh = nI 1 ∧ CPlan d q sg pages P counts fl fp settings sz)
theorem upT_s {Post : Int32 → Int32 → Int32 → (Nat → Int32) → (Nat → Int32) → (Nat → Int32) → (Nat → Int32) → (Nat → Int32) → (Nat → Int32) → (Nat → Int32) → (Nat → Int32) → (Nat → Int32) → Prop} {taken qc fl fp qs sz chosen ends rest rob : Nat → Int32} {fresh pages PP a1 : Int32} (hO : OkB d) (hC : CCosts d costs) (hR : CRows d rows) (hL : CL d counts taken)
    (hk : CKeep d (lyB d (dP d)) (sgB d) fresh pages PP qc fl fp qs sz)
    (h : ∀ pages P qc fl fp qs sz chosen ends rest rob, CPlan d (lyB d (dP d)) (sgB d) pages P qc fl fp qs sz → Post (nI 1) pages P qc fl fp qs sz chosen ends rest rob) : wpX6_upToDate_T fresh pages PP qc fl fp qs sz (nI (dH d)) (nI (dL d)) (nI (dP d)) costs rows counts chosen ends rest rob a1 Post := by
  unfold wpX6_upToDate_T wpX6_upToDate_T_b35
  rcases hk with e | ⟨e, hP⟩
  · refine ⟨fun z => absurd e z, fun _ => ?_⟩
    exact lay_s hO hC hR hL (fun chosen ends rest rob pages P qc fl fp qs sz hP => h pages P qc fl fp qs sz chosen ends rest rob hP)
  · subst e
    exact ⟨fun _ => h _ _ _ _ _ _ _ _ _ _ _ hP, fun z => absurd z (by decide)⟩
theorem upF_s {Post : Int32 → Int32 → Int32 → (Nat → Int32) → (Nat → Int32) → (Nat → Int32) → (Nat → Int32) → (Nat → Int32) → Prop} {taken qc fl fp qs sz : Nat → Int32} {fresh pages PP a1 : Int32} (hO : OkB d) (hR : CRows d rows) (hL : CL d counts taken)
    (hk : CKeep d (lyP d sg0 (dP d)) sg0 fresh pages PP qc fl fp qs sz)
    (h : ∀ pages P qc fl fp qs sz, CPlan d (lyP d sg0 (dP d)) sg0 pages P qc fl fp qs sz → Post (nI 1) pages P qc fl fp qs sz) : wpX6_upToDate_F fresh (nI (dH d)) (nI (dP d)) rows counts pages PP qc fl fp qs sz a1 Post := by
  unfold wpX6_upToDate_F wpX6_upToDate_F_b62
  rcases hk with e | ⟨e, hP⟩
  · exact ⟨fun z => absurd e z, fun _ => layPlain_s hO hR hL (sg0_ok hO) h⟩
  · subst e
    exact ⟨fun _ => h _ _ _ _ _ _ _ hP, fun z => absurd z (by decide)⟩
def hlp (d : Nat → Int32) (p s page : Nat) : Bool := if (lyP d (sg1 p s) (dP d)).1 ≤ page then true else !(wdP (lyP d (sg1 p s) (dP d)) (fun x => cnt d x (sg1 p s x)) page)
theorem helps_s {Post : Int32 → Int32 → Int32 → (Nat → Int32) → (Nat → Int32) → (Nat → Int32) → (Nat → Int32) → (Nat → Int32) → Prop} {taken qc fl fp qs sz : Nat → Int32} {pages PP : Int32} {s page : Nat} (hO : OkB d) (hR : CRows d rows) (hL : CL d counts taken) (hp : p < dP d) (hs : s < 3) (hpg : page < 480)
    (h : ∀ pages P qc fl fp qs sz, Post (bI (hlp d p s page)) pages P qc fl fp qs sz) : wpX6_helps (nI (dH d)) (nI (dP d)) rows counts pages PP qc fl fp qs sz (nI p) (nI s) (nI page) Post := by
  unfold wpX6_helps wpX6_helps_b32
  refine layPlain_s hO hR hL (sg1_ok hO hp hs) (fun pages P qc fl fp qs sz hP => ?_)
  have hb := hP.b480 hO
  unfold hlp at h
  rw [hP.1.1, nI_leI (by omega) (by omega)]
  by_cases g : (lyP d (sg1 p s) (dP d)).1 ≤ page
  · rw [if_pos g] at h
    exact ⟨fun _ => h _ _ _ _ _ _ _, fun z => absurd g z⟩
  · rw [if_neg g] at h
    refine ⟨fun z => absurd z g, fun _ => ?_⟩
    rw [isWidowP_e hO hP (by omega)]
    cases hh : wdP (lyP d (sg1 p s) (dP d)) (fun x => cnt d x (sg1 p s x)) page
    · rw [hh] at h
      exact ⟨fun z => absurd rfl z, fun _ => h _ _ _ _ _ _ _⟩
    · rw [hh] at h
      exact ⟨fun _ => h _ _ _ _ _ _ _, fun z => absurd z (by decide)⟩
end CPP
