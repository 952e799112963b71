/-! THE REFERENCE: checksum, help -/
section MSM
variable {d : Nat → Int32} {pages : Int32} {ll : Nat → Int32} {lines CA : Nat → Nat → Int32} {W : (Nat → Nat → Nat → Nat → Int32)} {st fp fl sz bc ec : Nat → Int32} {po : Nat → Nat → Int32} {a1 a2 a3 : Int32} {p : Nat}
theorem planSum_in {q : Pl} {sg : Nat → Nat} {A1 : Int32} {A2 : Int64} {Post : Int64 → Int32 → (Nat → Int32) → (Nat → Nat → Int32) → (Nat → Nat → Int32) → (Nat → Nat → Nat → Nat → Int32) → (Nat → Int32) → (Nat → Int32) → (Nat → Int32) → (Nat → Int32) → (Nat → Int32) → (Nat → Int32) → (Nat → Nat → Int32) → Prop} {K : Int32 → (Nat → Int32) → (Nat → Nat → Int32) → (Nat → Nat → Int32) → (Nat → Nat → Nat → Nat → Int32) → (Nat → Int32) → (Nat → Int32) → (Nat → Int32) → (Nat → Int32) → (Nat → Int32) → (Nat → Int32) → (Nat → Nat → Int32) → Int64 → Int32 → Prop} (hO : OkB d) (h : MPlan d q sg lines pages st fp fl sz bc ec po) {k : Nat} (hk : k < q.1) (v : Int64) (hK : K pages ll lines CA W st fp fl sz bc ec po (ckf (fun what => nI (pgN d q (fun p => cnt d p (sg p)) k what)) 5 v) (nI (k + 1))) :
    ∀ (r w : Nat), w + r = 5 → wpX7_planSum_L55 d A1 A2 Post K (r + 1) pages ll lines CA W st fp fl sz bc ec po (ckf (fun what => nI (pgN d q (fun p => cnt d p (sg p)) k what)) w v) (nI k) (nI w)
  | 0, w, hw => by
    unfold wpX7_planSum_L55
    have e : w = 5 := by omega
    subst e
    refine ⟨fun _ => ?_, fun z => absurd (by decide) z⟩
    rw [nI_1]
    exact hK
  | r + 1, w, hw => by
    unfold wpX7_planSum_L55
    have a : ¬ (5 : Int32) ≤ nI w := by rw [li5, nI_leI (by omega) (by omega)]; omega
    refine ⟨fun z => absurd z a, fun _ => toldPage_s hO h hk (by omega) ?_⟩
    rw [nI_1]
    exact planSum_in hO h hk v hK r (w + 1) (by omega)
theorem planSum_pg {q : Pl} {sg : Nat → Nat} {A1 : Int32} {A2 : Int64} {Post : Int64 → Int32 → (Nat → Int32) → (Nat → Nat → Int32) → (Nat → Nat → Int32) → (Nat → Nat → Nat → Nat → Int32) → (Nat → Int32) → (Nat → Int32) → (Nat → Int32) → (Nat → Int32) → (Nat → Int32) → (Nat → Int32) → (Nat → Nat → Int32) → Prop} (hO : OkB d) (h : MPlan d q sg lines pages st fp fl sz bc ec po) (v : Int64) (hP : Post (ckG d q sg q.1 v) pages ll lines CA W st fp fl sz bc ec po) :
    ∀ (r k : Nat), k + r = q.1 → wpX7_planSum_L43 d A1 A2 Post (r + 1) pages ll lines CA W st fp fl sz bc ec po (ckG d q sg k v) (nI k)
  | 0, k, hk => by
    have hb := h.b480 hO
    unfold wpX7_planSum_L43
    have a : pages ≤ nI k := by rw [h.pg, nI_leI (by omega) (by omega)]; omega
    refine ⟨fun _ => ?_, fun z => absurd a z⟩
    rw [show k = q.1 by omega]
    exact hP
  | r + 1, k, hk => by
    have hb := h.b480 hO
    unfold wpX7_planSum_L43
    have a : ¬ pages ≤ nI k := by rw [h.pg, nI_leI (by omega) (by omega)]; omega
    refine ⟨fun z => absurd z a, fun _ => ⟨5 + 1, ?_⟩⟩
    exact planSum_in hO h (by omega) (ckG d q sg k v) (planSum_pg hO h v hP r (k + 1) (by omega)) 5 0 rfl
theorem planSum_n {q : Pl} {sg : Nat → Nat} {A1 : Int32} {A2 : Int64} {Post : Int64 → Int32 → (Nat → Int32) → (Nat → Nat → Int32) → (Nat → Nat → Int32) → (Nat → Nat → Nat → Nat → Int32) → (Nat → Int32) → (Nat → Int32) → (Nat → Int32) → (Nat → Int32) → (Nat → Int32) → (Nat → Int32) → (Nat → Nat → Int32) → Prop} (hO : OkB d) (h : MPlan d q sg lines pages st fp fl sz bc ec po) (hlt : LtC d q sg) (v : Int64) (hP : Post (ckW d q sg v) pages ll lines CA W st fp fl sz bc ec po) :
    ∀ (r w : Nat), w + r = 7 → wpX7_planSum_L11 d A1 A2 Post (r + 1) pages ll lines CA W st fp fl sz bc ec po (ckf (fun what => nI (numP d q sg what)) w v) (nI w)
  | 0, w, hw => by
    unfold wpX7_planSum_L11
    have e : w = 7 := by omega
    subst e
    refine ⟨fun _ => ⟨q.1 + 1, ?_⟩, fun z => absurd (by decide) z⟩
    exact planSum_pg hO h _ hP q.1 0 (by omega)
  | r + 1, w, hw => by
    unfold wpX7_planSum_L11
    have a : ¬ (7 : Int32) ≤ nI w := by rw [li7, nI_leI (by omega) (by omega)]; omega
    refine ⟨fun z => absurd z a, fun _ => toldPlan_s hO h hlt (by omega) ?_⟩
    rw [nI_1]
    exact planSum_n hO h hlt v hP r (w + 1) (by omega)
theorem planSum_s {A2 : Int64} {Post : Int64 → Int32 → (Nat → Int32) → (Nat → Nat → Int32) → (Nat → Nat → Int32) → (Nat → Nat → Nat → Nat → Int32) → (Nat → Int32) → (Nat → Int32) → (Nat → Int32) → (Nat → Int32) → (Nat → Int32) → (Nat → Int32) → (Nat → Nat → Int32) → Prop} (best : Bool) (hO : OkB d) (hP : ∀ pages ll lines CA W st fp fl sz bc ec po, Post (ckW d (plQ d best) (plS d best) A2) pages ll lines CA W st fp fl sz bc ec po) : wpX7_planSum pages d ll lines CA W st fp fl sz bc ec po (bI best) A2 Post := by
  unfold wpX7_planSum
  refine layM_s best hO (fun pages ll lines CA W st fp fl sz bc ec po hA => ⟨7 + 1, ?_⟩)
  exact planSum_n hO hA (LtC_pl best) A2 (hP _ _ _ _ _ _ _ _ _ _ _ _) 7 0 rfl
theorem csM_in {Post : Int64 → Int32 → Int32 → (Nat → Int32) → (Nat → Nat → Int32) → (Nat → Nat → Int32) → (Nat → Nat → Nat → Nat → Int32) → (Nat → Int32) → (Nat → Int32) → (Nat → Int32) → (Nat → Int32) → (Nat → Int32) → (Nat → Int32) → (Nat → Nat → Int32) → Prop} {K : Int32 → Int32 → (Nat → Int32) → (Nat → Nat → Int32) → (Nat → Nat → Int32) → (Nat → Nat → Nat → Nat → Int32) → (Nat → Int32) → (Nat → Int32) → (Nat → Int32) → (Nat → Int32) → (Nat → Int32) → (Nat → Int32) → (Nat → Nat → Int32) → Int64 → Int32 → Prop} {th : Int32} (hO : OkB d) (hp : p < dP d) (v : Int64) (hK : ∀ pages ll lines CA W st fp fl sz bc ec po, K th pages ll lines CA W st fp fl sz bc ec po (ckf (paI d p) 8 v) (nI (p + 1))) :
    ∀ (r w : Nat) (pages : Int32) (ll : Nat → Int32) (lines CA : Nat → Nat → Int32) (W : (Nat → Nat → Nat → Nat → Int32)) (st fp fl sz bc ec : Nat → Int32) (po : Nat → Nat → Int32), w + r = 8 → wpX7_checksum_L49 d Post K (r + 1) th pages ll lines CA W st fp fl sz bc ec po (ckf (paI d p) w v) (nI p) (nI w)
  | 0, w, pages, ll, lines, CA, W, st, fp, fl, sz, bc, ec, po, hw => by
    unfold wpX7_checksum_L49
    have e : w = 8 := by omega
    subst e
    refine ⟨fun _ => ?_, fun z => absurd (by decide) z⟩
    rw [nI_1]
    exact hK _ _ _ _ _ _ _ _ _ _ _ _
  | r + 1, w, pages, ll, lines, CA, W, st, fp, fl, sz, bc, ec, po, hw => by
    unfold wpX7_checksum_L49
    have a : ¬ (8 : Int32) ≤ nI w := by rw [li8, nI_leI (by omega) (by omega)]; omega
    refine ⟨fun z => absurd z a, fun _ => toldPar_s hO hp (by omega) (fun pages ll lines CA W st fp fl sz bc ec po => ?_)⟩
    rw [nI_1]
    exact csM_in hO hp v hK r (w + 1) pages ll lines CA W st fp fl sz bc ec po (by omega)
theorem csM_p {Post : Int64 → Int32 → Int32 → (Nat → Int32) → (Nat → Nat → Int32) → (Nat → Nat → Int32) → (Nat → Nat → Nat → Nat → Int32) → (Nat → Int32) → (Nat → Int32) → (Nat → Int32) → (Nat → Int32) → (Nat → Int32) → (Nat → Int32) → (Nat → Nat → Int32) → Prop} {th : Int32} (hO : OkB d) (v : Int64) (h : ∀ pages ll lines CA W st fp fl sz bc ec po, Post (ckW d (lyB d (dP d)) (sgB d) (ckW d (lyP d sg0 (dP d)) sg0 (ckP d (dP d) v))) th pages ll lines CA W st fp fl sz bc ec po) :
    ∀ (r p : Nat) (pages : Int32) (ll : Nat → Int32) (lines CA : Nat → Nat → Int32) (W : (Nat → Nat → Nat → Nat → Int32)) (st fp fl sz bc ec : Nat → Int32) (po : Nat → Nat → Int32), p + r = dP d → wpX7_checksum_L36 d Post (r + 1) th pages ll lines CA W st fp fl sz bc ec po (ckP d p v) (nI p)
  | 0, p, pages, ll, lines, CA, W, st, fp, fl, sz, bc, ec, po, hp => by
    have h16 := hO.p16
    unfold wpX7_checksum_L36
    rw [show d (4 : Int32).toNatClampNeg = nI (dP d) from hO.p]
    have a : nI (dP d) ≤ nI p := by rw [nI_leI (by omega) (by omega)]; omega
    refine ⟨vp_in_nI (n := 4) (by decide) (by decide), fun _ => ?_, fun z => absurd a z⟩
    rw [show p = dP d by omega]
    exact planSum_s false hO (fun pages ll lines CA W st fp fl sz bc ec po => planSum_s true hO (fun pages ll lines CA W st fp fl sz bc ec po => h _ _ _ _ _ _ _ _ _ _ _ _))
  | r + 1, p, pages, ll, lines, CA, W, st, fp, fl, sz, bc, ec, po, hp => by
    have h16 := hO.p16
    unfold wpX7_checksum_L36
    rw [show d (4 : Int32).toNatClampNeg = nI (dP d) from hO.p]
    have a : ¬ nI (dP d) ≤ nI p := by rw [nI_leI (by omega) (by omega)]; omega
    refine ⟨vp_in_nI (n := 4) (by decide) (by decide), fun z => absurd z a, fun _ => ⟨8 + 1, ?_⟩⟩
    exact csM_in hO (by omega) (ckP d p v) (fun pages ll lines CA W st fp fl sz bc ec po => csM_p hO v h r (p + 1) pages ll lines CA W st fp fl sz bc ec po (by omega)) 8 0 pages ll lines CA W st fp fl sz bc ec po rfl
theorem csM_n {Post : Int64 → Int32 → Int32 → (Nat → Int32) → (Nat → Nat → Int32) → (Nat → Nat → Int32) → (Nat → Nat → Nat → Nat → Int32) → (Nat → Int32) → (Nat → Int32) → (Nat → Int32) → (Nat → Int32) → (Nat → Int32) → (Nat → Int32) → (Nat → Nat → Int32) → Prop} {th : Int32} (hO : OkB d) (h : ∀ pages ll lines CA W st fp fl sz bc ec po, Post (ckA d) th pages ll lines CA W st fp fl sz bc ec po) :
    ∀ (r w : Nat), w + r = 13 → wpX7_checksum_L9 d Post (r + 1) th pages ll lines CA W st fp fl sz bc ec po (ckf (stI d) w 0) (nI w)
  | 0, w, hw => by
    unfold wpX7_checksum_L9
    have e : w = 13 := by omega
    subst e
    refine ⟨fun _ => ⟨dP d + 1, ?_⟩, fun z => absurd (by decide) z⟩
    exact csM_p hO (ckf (stI d) 13 0) h (dP d) 0 pages ll lines CA W st fp fl sz bc ec po (by omega)
  | r + 1, w, hw => by
    unfold wpX7_checksum_L9
    have a : ¬ (13 : Int32) ≤ nI w := by rw [li13, nI_leI (by omega) (by omega)]; omega
    refine ⟨fun z => absurd z a, fun _ => told_s hO (by omega) ?_⟩
    rw [nI_1]
    exact csM_n hO h r (w + 1) (by omega)
theorem checksumM_s {Post : Int64 → Int32 → Int32 → (Nat → Int32) → (Nat → Nat → Int32) → (Nat → Nat → Int32) → (Nat → Nat → Nat → Nat → Int32) → (Nat → Int32) → (Nat → Int32) → (Nat → Int32) → (Nat → Int32) → (Nat → Int32) → (Nat → Int32) → (Nat → Nat → Int32) → Prop} {th : Int32} (hO : OkB d) (h : ∀ pages ll lines CA W st fp fl sz bc ec po, Post (ckA d) 0 pages ll lines CA W st fp fl sz bc ec po) : wpX7_checksum th pages d ll lines CA W st fp fl sz bc ec po Post :=
  ⟨13 + 1, csM_n hO h 13 0 rfl⟩
/-! help -/
theorem helpsM_s {Post : Int32 → Int32 → (Nat → Int32) → (Nat → Int32) → (Nat → Int32) → (Nat → Int32) → (Nat → Int32) → (Nat → Int32) → (Nat → Nat → Int32) → Prop} {s page : Nat} (hO : OkB d) (hM : MLn d lines) (hst : ∀ q, q < dP d → st q = nI 0) (hp : p < dP d) (hs : s < 3) (hpg : page < 480) (h : ∀ pages st fp fl sz bc ec po, (∀ q, q < dP d → st q = nI 0) → Post (bI (hlp d p s page)) pages st fp fl sz bc ec po) : wpX7_helps pages d lines st fp fl sz bc ec po (nI page) (nI p) (nI s) Post := by
  have h16 := hO.p16
  unfold wpX7_helps wpX7_helps_b27 wpX7_helps_b32
  refine ⟨vp_in_nI (by omega) (by decide), ?_⟩
  rw [nI_clamp (show p < 2 ^ 31 by omega)]
  refine layPages_s (sg := sg1 p s) hO hM (fun q hq => ?_) (fun pages fp fl sz bc ec po hA => ?_)
  · unfold sg1
    by_cases g : q = p
    · rw [if_pos g, g, pk_us]; exact ⟨rfl, hs⟩
    · rw [if_neg g, pk_un g, hst q hq]; exact ⟨rfl, by decide⟩
  · have hb := hA.b480 hO
    have back : ∀ q, q < dP d → upd (upd st p (nI s)) p (0 : Int32) q = nI 0 := fun q hq => by
      by_cases g : q = p
      · rw [g, pk_us]; rfl
      · rw [pk_un g, pk_un g]; exact hst q hq
    unfold hlp at h
    rw [hA.pg, nI_leI (by omega) (by omega)]
    by_cases g : (lyP d (sg1 p s) (dP d)).1 ≤ page
    · rw [if_pos g] at h
      exact ⟨fun _ => ⟨vp_in_nI (by omega) (by decide), Or.inr rfl, h _ _ _ _ _ _ _ _ back⟩, fun z => absurd g z⟩
    · rw [if_neg g] at h
      refine ⟨fun z => absurd z g, fun _ => ?_⟩
      rw [isWP_m hO hA (by omega)]
      cases hh : wdP (lyP d (sg1 p s) (dP d)) (fun x => cnt d x (sg1 p s x)) page
      · rw [hh] at h
        exact ⟨fun z => absurd rfl z, fun _ => ⟨vp_in_nI (by omega) (by decide), Or.inr rfl, h _ _ _ _ _ _ _ _ back⟩⟩
      · rw [hh] at h
        exact ⟨fun _ => ⟨vp_in_nI (by omega) (by decide), Or.inl rfl, h _ _ _ _ _ _ _ _ back⟩, fun z => absurd z (by decide)⟩
theorem of_1 {Post : Int32 → Prop} (hp : p < 16) : wpX7_of d (nI p) 1 Post = Post (d (11 + 34 * p + 1)) := by
  rw [li1]
  exact of_e hp (by decide)
theorem helpM_1 {Post : Int32 → Int32 → Int32 → (Nat → Int32) → (Nat → Nat → Int32) → (Nat → Int32) → (Nat → Int32) → (Nat → Int32) → (Nat → Int32) → (Nat → Int32) → (Nat → Int32) → (Nat → Nat → Int32) → Prop} {th : Int32} {page : Nat} (hO : OkB d) (hM : MLn d lines) (hpg : page < 480) (r : Int32) (h : ∀ pages st fp fl sz bc ec po, Post r th pages ll lines st fp fl sz bc ec po) :
    ∀ (p : Nat), (∀ m, p = m + 1 → hpD d page p = r → ∀ (pages : Int32) (st fp fl sz bc ec : Nat → Int32) (po : Nat → Nat → Int32), (∀ q, q < dP d → st q = nI 0) → wpX7_help_L58 d (nI page) Post (p + 1) th pages ll lines st fp fl sz bc ec po (nI m) 1) → p < dP d → hpD d page (p + 1) = r → ∀ (pages : Int32) (st fp fl sz bc ec : Nat → Int32) (po : Nat → Nat → Int32), (∀ q, q < dP d → st q = nI 0) → wpX7_help_L58 d (nI page) Post (p + 1 + 1) th pages ll lines st fp fl sz bc ec po (nI p) 1
  | p, ih, hp, e, pages, st, fp, fl, sz, bc, ec, po, hst => by
    have h16 := hO.p16
    have e : (if hlp d p 1 page then nI (10 * p + 1) else if hlp d p 2 page then nI (10 * p + 2) else if dB d p then -1 else hpD d page p) = r := e
    unfold wpX7_help_L58
    refine ⟨fun z => absurd z (by decide), fun _ => ⟨3, ?_⟩⟩
    have t1 : ¬ (3 : Int32) ≤ 1 := by decide
    have t2 : ¬ (3 : Int32) ≤ 1 + 1 := by decide
    have t3 : (3 : Int32) ≤ 1 + 1 + 1 := by decide
    unfold wpX7_help_L65
    refine ⟨fun z => absurd z t1, fun _ => ?_⟩
    refine helpsM_s (s := 1) hO hM hst hp (by decide) hpg (fun pages st fp fl sz bc ec po hst => ?_)
    cases h1 : hlp d p 1 page
    · refine ⟨fun _ => ?_, fun z => absurd rfl z⟩
      unfold wpX7_help_L65
      refine ⟨fun z => absurd z t2, fun _ => ?_⟩
      refine helpsM_s (s := 2) hO hM hst hp (by decide) hpg (fun pages st fp fl sz bc ec po hst => ?_)
      cases h2 : hlp d p 2 page
      · refine ⟨fun _ => ?_, fun z => absurd rfl z⟩
        rw [h1, h2] at e
        unfold wpX7_help_L65 wpX7_help_b113 wpX7_help_b114
        refine ⟨fun _ => ?_, fun z => absurd t3 z⟩
        have stop : ∀ x, r = -1 → wpX7_help_L58 d (nI page) Post (p + 1) th pages ll lines st fp fl sz bc ec po x (0 : Int32) := fun x hr => by
          subst hr
          unfold wpX7_help_L58
          exact ⟨fun _ => h _ _ _ _ _ _ _ _, fun z => absurd rfl z⟩
        refine ⟨fun z => ?_, fun z => ?_⟩
        · have p0 : p = 0 := by have := (nI_leI (b := 0) (by omega) (by decide)).mp z; omega
          refine stop _ ?_
          subst p0
          cases hb : dB d 0 <;> rw [hb] at e <;> exact e.symm
        · have p1 : p ≠ 0 := fun y => z (by rw [y]; decide)
          rw [of_1 (by omega), hO.b hp]
          cases hb : dB d p
          · rw [hb] at e
            refine ⟨fun z => absurd rfl z, fun _ => ?_⟩
            obtain ⟨m, rfl⟩ : ∃ m, p = m + 1 := ⟨p - 1, by omega⟩
            rw [pk_m1 m]
            rw [if_neg (by decide), if_neg (by decide), if_neg (by decide)] at e
            exact ih m rfl e pages st fp fl sz bc ec po hst
          · rw [hb] at e
            exact ⟨fun _ => stop _ e.symm, fun z => absurd z (by decide)⟩
      · rw [h1, h2] at e
        have e : nI (10 * p + 2) = r := e
        subst e
        refine ⟨fun z => absurd z (by decide), fun _ => ?_⟩
        rw [show (10 : Int32) * nI p + (1 + 1) = nI (10 * p + 2) by rw [li10, pk_mul, show (1 : Int32) + 1 = nI 2 by decide, nI_add]]
        exact h _ _ _ _ _ _ _ _
    · rw [h1] at e
      have e : nI (10 * p + 1) = r := e
      subst e
      refine ⟨fun z => absurd z (by decide), fun _ => ?_⟩
      rw [show (10 : Int32) * nI p + 1 = nI (10 * p + 1) by rw [li10, pk_mul, nI_1]]
      exact h _ _ _ _ _ _ _ _
theorem helpM_L {Post : Int32 → Int32 → Int32 → (Nat → Int32) → (Nat → Nat → Int32) → (Nat → Int32) → (Nat → Int32) → (Nat → Int32) → (Nat → Int32) → (Nat → Int32) → (Nat → Int32) → (Nat → Nat → Int32) → Prop} {th : Int32} {page : Nat} (hO : OkB d) (hM : MLn d lines) (hpg : page < 480) (r : Int32) (h : ∀ pages st fp fl sz bc ec po, Post r th pages ll lines st fp fl sz bc ec po) :
    ∀ (p : Nat), p < dP d → hpD d page (p + 1) = r → ∀ (pages : Int32) (st fp fl sz bc ec : Nat → Int32) (po : Nat → Nat → Int32), (∀ q, q < dP d → st q = nI 0) → wpX7_help_L58 d (nI page) Post (p + 1 + 1) th pages ll lines st fp fl sz bc ec po (nI p) 1
  | 0, hp, e => helpM_1 hO hM hpg r h 0 (fun m hm => by omega) hp e
  | p + 1, hp, e => helpM_1 hO hM hpg r h (p + 1) (fun m hm e' => by
    have : m = p := by omega
    subst this
    exact helpM_L hO hM hpg r h m (by omega) e') hp e
theorem helpM_s {Post : Int32 → Int32 → Int32 → (Nat → Int32) → (Nat → Nat → Int32) → (Nat → Int32) → (Nat → Int32) → (Nat → Int32) → (Nat → Int32) → (Nat → Int32) → (Nat → Int32) → (Nat → Nat → Int32) → Prop} {th : Int32} (hO : OkB d) (h : ∀ k, k < (lyP d sg0 (dP d)).1 → a1 = nI k → ∀ pages ll lines st fp fl sz bc ec po, Post (helpS d k) 0 pages ll lines st fp fl sz bc ec po) (hX : ¬ inR a1 (lyP d sg0 (dP d)).1 → ∀ pages ll lines st fp fl sz bc ec po, Post 0 1 pages ll lines st fp fl sz bc ec po) : wpX7_help th pages d ll lines st fp fl sz bc ec po a1 Post := by
  unfold wpX7_help wpX7_help_b29
  refine layPlainM_s hO (fun pages ll lines st fp fl sz bc ec po hA => ?_)
  have hb := hA.b480 hO
  have e := hA.pg
  subst e
  refine inN_s (by omega) (fun k hk e => ?_) (fun hn => ?_)
  · subst e
    have hk' := h k hk rfl
    have hin := hA.in hk
    refine ⟨fun _ => ?_, fun z => absurd z (by decide)⟩
    rw [fails_0]
    refine ⟨fun _ => ?_, fun z => absurd rfl z⟩
    rw [isWP_m hO hA hk]
    unfold helpS at hk'
    cases hw : wdP (lyP d sg0 (dP d)) (fun p => cnt d p (sg0 p)) k
    · rw [hw] at hk'
      exact ⟨fun z => absurd rfl z, fun _ => hk' _ _ _ _ _ _ _ _ _ _⟩
    · rw [hw] at hk'
      refine ⟨fun _ => ⟨vp_in_nI (by omega) (by decide), (lyP d sg0 (dP d)).2.1 k + 1 + 1, ?_⟩, fun z => absurd z (by decide)⟩
      rw [nI_clamp (by omega), (hA.at hk).1]
      exact helpM_L hO hA.1 (by omega) _ (fun pages st fp fl sz bc ec po => hk' pages ll lines st fp fl sz bc ec po) _ hin.1 rfl _ _ _ _ _ _ _ _ (fun q hq => hA.2.1 q hq)
  · refine ⟨fun z => absurd rfl z, fun _ => ?_⟩
    rw [fails_1 (by decide)]
    exact ⟨fun z => absurd z (by decide), fun _ => hX hn _ _ _ _ _ _ _ _ _ _⟩
end MSM
