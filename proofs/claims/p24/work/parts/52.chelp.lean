/-! THE CLASS: checksum and help -/
def hpD (d : Nat → Int32) (page : Nat) : Nat → Int32
  | 0 => -1
  | p + 1 => if hlp d p 1 page then nI (10 * p + 1) else if hlp d p 2 page then nI (10 * p + 2) else if dB d p then -1 else hpD d page p
def helpS (d : Nat → Int32) (page : Nat) : Int32 := if wdP (lyP d sg0 (dP d)) (fun p => cnt d p (sg0 p)) page then hpD d page ((lyP d sg0 (dP d)).2.1 page + 1) else -2
section CHP
variable {d : Nat → Int32} {rows costs counts taken : Nat → Int32} {iBF b1 b2 : Int32} {b3 b4 b5 b6 b7 : Nat → Int32} {iPF c1 c2 : Int32} {c3 c4 c5 c6 c7 : Nat → Int32} {k1 k2 k3 k4 : Nat → Int32} {a1 a2 a3 : Int32}
theorem check_in {Post : Int64 → Int32 → Int32 → Int32 → Int32 → (Nat → Int32) → (Nat → Int32) → (Nat → Int32) → (Nat → Int32) → (Nat → Int32) → Int32 → Int32 → (Nat → Int32) → (Nat → Int32) → (Nat → Int32) → (Nat → Int32) → (Nat → Int32) → (Nat → Int32) → (Nat → Int32) → (Nat → Int32) → (Nat → Int32) → Prop}
    {K : Int32 → Int32 → Int32 → Int32 → (Nat → Int32) → (Nat → Int32) → (Nat → Int32) → (Nat → Int32) → (Nat → Int32) → Int32 → Int32 → (Nat → Int32) → (Nat → Int32) → (Nat → Int32) → (Nat → Int32) → (Nat → Int32) → (Nat → Int32) → (Nat → Int32) → (Nat → Int32) → (Nat → Int32) → Int64 → Int32 → Prop} {W S L PP : Int32}
    {p : Nat} (hO : OkB d) (hR : CRows d rows) (hL : CL d counts taken) (hP : CPlan d (lyB d (dP d)) (sgB d) b1 b2 b3 b4 b5 b6 b7) (hp : p < dP d) (v : Int64) (hK : K iPF iBF b1 b2 b3 b4 b5 b6 b7 c1 c2 c3 c4 c5 c6 c7 k1 k2 k3 k4 (ckf (paI d p) 8 v) (nI (p + 1))) :
    ∀ (r w : Nat), w + r = 7 → wpX6_checksum_L65 W (nI (dH d)) S L PP costs rows counts Post K (r + 1) iPF iBF b1 b2 b3 b4 b5 b6 b7 c1 c2 c3 c4 c5 c6 c7 k1 k2 k3 k4 (ckf (paI d p) w v) (nI p) (nI w)
  | 0, w, hw => by
    unfold wpX6_checksum_L65
    have e : w = 7 := by omega
    subst e
    refine ⟨fun _ => ?_, fun z => absurd (by decide) z⟩
    rw [settingOf_e hO hP hp, nI_1]
    exact hK
  | r + 1, w, hw => by
    unfold wpX6_checksum_L65
    have a : ¬ (7 : Int32) ≤ nI w := by rw [li7, nI_leI (by omega) (by omega)]; omega
    refine ⟨fun z => absurd z a, fun _ => parNumber_s hO hR hL hp (by omega) ?_⟩
    rw [nI_1]
    exact check_in hO hR hL hP hp v hK r (w + 1) (by omega)
theorem check_p {Post : Int64 → Int32 → Int32 → Int32 → Int32 → (Nat → Int32) → (Nat → Int32) → (Nat → Int32) → (Nat → Int32) → (Nat → Int32) → Int32 → Int32 → (Nat → Int32) → (Nat → Int32) → (Nat → Int32) → (Nat → Int32) → (Nat → Int32) → (Nat → Int32) → (Nat → Int32) → (Nat → Int32) → (Nat → Int32) → Prop} {W S L : Int32}
    (hO : OkB d) (hC : CCosts d costs) (hR : CRows d rows) (hL : CL d counts taken) (hP : CPlan d (lyB d (dP d)) (sgB d) b1 b2 b3 b4 b5 b6 b7) (hQ : CPlan d (lyP d sg0 (dP d)) sg0 c1 c2 c3 c4 c5 c6 c7) (v : Int64) (h : Post (ckW d (lyB d (dP d)) (sgB d) (ckW d (lyP d sg0 (dP d)) sg0 (ckP d (dP d) v))) iPF iBF b1 b2 b3 b4 b5 b6 b7 c1 c2 c3 c4 c5 c6 c7 k1 k2 k3 k4) :
    ∀ (r p : Nat), p + r = dP d → wpX6_checksum_L50 W (nI (dH d)) S L (nI (dP d)) costs rows counts Post (r + 1) iPF iBF b1 b2 b3 b4 b5 b6 b7 c1 c2 c3 c4 c5 c6 c7 k1 k2 k3 k4 (ckP d p v) (nI p)
  | 0, p, hp => by
    have h16 := hO.p16
    unfold wpX6_checksum_L50
    have a : nI (dP d) ≤ nI p := by rw [nI_leI (by omega) (by omega)]; omega
    refine ⟨fun _ => ?_, fun z => absurd a z⟩
    rw [show p = dP d by omega]
    exact withPlan_s hO hC hR hQ (withPlan_s hO hC hR hP h)
  | r + 1, p, hp => by
    have h16 := hO.p16
    unfold wpX6_checksum_L50
    have a : ¬ nI (dP d) ≤ nI p := by rw [nI_leI (by omega) (by omega)]; omega
    refine ⟨fun z => absurd z a, fun _ => ⟨7 + 1, ?_⟩⟩
    exact check_in hO hR hL hP (by omega) (ckP d p v) (check_p hO hC hR hL hP hQ v h r (p + 1) (by omega)) 7 0 rfl
theorem check_n {Post : Int64 → Int32 → Int32 → Int32 → Int32 → (Nat → Int32) → (Nat → Int32) → (Nat → Int32) → (Nat → Int32) → (Nat → Int32) → Int32 → Int32 → (Nat → Int32) → (Nat → Int32) → (Nat → Int32) → (Nat → Int32) → (Nat → Int32) → (Nat → Int32) → (Nat → Int32) → (Nat → Int32) → (Nat → Int32) → Prop}
    (hO : OkB d) (hC : CCosts d costs) (hR : CRows d rows) (hL : CL d counts taken) (hP : CPlan d (lyB d (dP d)) (sgB d) b1 b2 b3 b4 b5 b6 b7) (hQ : CPlan d (lyP d sg0 (dP d)) sg0 c1 c2 c3 c4 c5 c6 c7) (h : Post (ckA d) iPF iBF b1 b2 b3 b4 b5 b6 b7 c1 c2 c3 c4 c5 c6 c7 k1 k2 k3 k4) :
    ∀ (r w : Nat), w + r = 13 → wpX6_checksum_L17 (nI (dW d)) (nI (dH d)) (nI (dS d)) (nI (dL d)) (nI (dP d)) costs rows counts Post (r + 1) iPF iBF b1 b2 b3 b4 b5 b6 b7 c1 c2 c3 c4 c5 c6 c7 k1 k2 k3 k4 (ckf (stI d) w 0) (nI w)
  | 0, w, hw => by
    unfold wpX6_checksum_L17
    have e : w = 13 := by omega
    subst e
    refine ⟨fun _ => ⟨dP d + 1, ?_⟩, fun z => absurd (by decide) z⟩
    exact check_p hO hC hR hL hP hQ (ckf (stI d) 13 0) h (dP d) 0 (by omega)
  | r + 1, w, hw => by
    unfold wpX6_checksum_L17
    have a : ¬ (13 : Int32) ≤ nI w := by rw [li13, nI_leI (by omega) (by omega)]; omega
    refine ⟨fun z => absurd z a, fun _ => numberOf_b hO hC hR (by omega) ?_⟩
    rw [nI_1]
    exact check_n hO hC hR hL hP hQ h r (w + 1) (by omega)
theorem checksum_s {Post : Int64 → Int32 → Int32 → Int32 → Int32 → (Nat → Int32) → (Nat → Int32) → (Nat → Int32) → (Nat → Int32) → (Nat → Int32) → Int32 → Int32 → (Nat → Int32) → (Nat → Int32) → (Nat → Int32) → (Nat → Int32) → (Nat → Int32) → (Nat → Int32) → (Nat → Int32) → (Nat → Int32) → (Nat → Int32) → Prop}
    (hO : OkB d) (hC : CCosts d costs) (hR : CRows d rows) (hL : CL d counts taken) (hB : KB d iBF b1 b2 b3 b4 b5 b6 b7) (hP : KP d iPF c1 c2 c3 c4 c5 c6 c7)
    (h : ∀ iPF iBF b1 b2 b3 b4 b5 b6 b7 c1 c2 c3 c4 c5 c6 c7 k1 k2 k3 k4, KB d iBF b1 b2 b3 b4 b5 b6 b7 → KP d iPF c1 c2 c3 c4 c5 c6 c7 → Post (ckA d) iPF iBF b1 b2 b3 b4 b5 b6 b7 c1 c2 c3 c4 c5 c6 c7 k1 k2 k3 k4) :
    wpX6_checksum iPF iBF b1 b2 b3 b4 b5 b6 b7 (nI (dW d)) (nI (dH d)) (nI (dS d)) (nI (dL d)) (nI (dP d)) costs rows counts c1 c2 c3 c4 c5 c6 c7 k1 k2 k3 k4 Post := by
  unfold wpX6_checksum
  refine upF_s hO hR hL hP (fun pages P qc fl fp qs sz hh => ?_)
  refine upT_s hO hC hR hL hB (fun pages' P' qc' fl' fp' qs' sz' chosen ends rest rob hh' => ⟨13 + 1, ?_⟩)
  exact check_n hO hC hR hL hh' hh (h _ _ _ _ _ _ _ _ _ _ _ _ _ _ _ _ _ _ _ _ (Or.inr ⟨rfl, hh'⟩) (Or.inr ⟨rfl, hh⟩)) 13 0 rfl
theorem help_L {Post : Int32 → Int32 → Int32 → Int32 → (Nat → Int32) → (Nat → Int32) → (Nat → Int32) → (Nat → Int32) → (Nat → Int32) → Int32 → Int32 → (Nat → Int32) → (Nat → Int32) → (Nat → Int32) → (Nat → Int32) → (Nat → Int32) → Prop} {PostX : String → Int32 → Int32 → Int32 → (Nat → Int32) → (Nat → Int32) → (Nat → Int32) → (Nat → Int32) → (Nat → Int32) → Int32 → Int32 → (Nat → Int32) → (Nat → Int32) → (Nat → Int32) → (Nat → Int32) → (Nat → Int32) → Prop} {page : Nat} (hO : OkB d) (hR : CRows d rows) (hL : CL d counts taken) (hpg : page < 480) (r : Int32)
    (h : ∀ t1 t2 t3 t4 t5 t6 t7, Post r iPF c1 c2 c3 c4 c5 c6 c7 t1 t2 t3 t4 t5 t6 t7) : ∀ (p : Nat), p ≤ dP d → hpD d page p = r → ∀ t1 t2 t3 t4 t5 t6 t7, wpX6_help_L28 (nI (dH d)) (nI (dP d)) rows counts (nI page) Post PostX (p + 1) iPF c1 c2 c3 c4 c5 c6 c7 t1 t2 t3 t4 t5 t6 t7 (if p = 0 then -1 else nI (p - 1))
  | 0, _, e, t1, t2, t3, t4, t5, t6, t7 => by
    unfold wpX6_help_L28
    have e : (-1 : Int32) = r := e
    subst e
    exact ⟨fun _ => h _ _ _ _ _ _ _, fun z => absurd (by decide) z⟩
  | p + 1, hp, e, t1, t2, t3, t4, t5, t6, t7 => by
    have h16 := hO.p16
    rw [if_neg (Nat.succ_ne_zero p), Nat.add_sub_cancel]
    have e : (if hlp d p 1 page then nI (10 * p + 1) else if hlp d p 2 page then nI (10 * p + 2) else if dB d p then -1 else hpD d page p) = r := e
    unfold wpX6_help_L28
    refine ⟨fun z => absurd z (nI_pos (by omega)), fun _ => ⟨3, ?_⟩⟩
    have t2lt : ¬ (2 : Int32) < 1 := by decide
    have t3lt : ¬ (2 : Int32) < (1 + 1) := by decide
    have t4lt : (2 : Int32) < (1 + 1 + 1) := by decide
    unfold wpX6_help_L35
    refine ⟨fun z => absurd z t2lt, fun _ => ?_⟩
    refine helps_s (s := 1) hO hR hL (by omega) (by decide) hpg (fun t1 t2 t3 t4 t5 t6 t7 => ?_)
    cases h1 : hlp d p 1 page
    · refine ⟨fun _ => ?_, fun z => absurd rfl z⟩
      unfold wpX6_help_L35
      refine ⟨fun z => absurd z t3lt, fun _ => ?_⟩
      refine helps_s (s := 2) hO hR hL (by omega) (by decide) hpg (fun t1 t2 t3 t4 t5 t6 t7 => ?_)
      cases h2 : hlp d p 2 page
      · refine ⟨fun _ => ?_, fun z => absurd rfl z⟩
        unfold wpX6_help_L35
        refine ⟨fun _ => ?_, fun z => absurd t4lt z⟩
        rw [beginsPage_e hO hR (by omega)]
        rw [h1, h2] at e
        cases hb : dB d p
        · rw [hb] at e
          refine ⟨fun _ => ?_, fun z => absurd rfl z⟩
          have ih := help_L (PostX := PostX) hO hR hL hpg r h p (by omega) e t1 t2 t3 t4 t5 t6 t7
          by_cases g : p = 0
          · rw [if_pos g] at ih
            rw [show nI p + (-1) = (-1 : Int32) by rw [g]; decide]
            exact ih
          · rw [if_neg g] at ih
            rw [nI_m1 (by omega)]
            exact ih
        · rw [hb] at e
          have e : (-1 : Int32) = r := e
          subst e
          exact ⟨fun z => absurd z (by decide), fun _ => h _ _ _ _ _ _ _⟩
      · rw [h1, h2] at e
        have e : nI (10 * p + 2) = r := e
        subst e
        refine ⟨fun z => absurd z (by decide), fun _ => ?_⟩
        rw [show (10 : Int32) * nI p + (1 + 1) = nI (10 * p + 2) by rw [li10, pk_mul, show (1 : Int32) + 1 = nI 2 by decide, nI_add]]
        exact h _ _ _ _ _ _ _
    · rw [h1] at e
      have e : nI (10 * p + 1) = r := e
      subst e
      refine ⟨fun z => absurd z (by decide), fun _ => ?_⟩
      rw [show (10 : Int32) * nI p + 1 = nI (10 * p + 1) by rw [li10, pk_mul, nI_1]]
      exact h _ _ _ _ _ _ _
theorem help_s {Post : Int32 → Int32 → Int32 → Int32 → (Nat → Int32) → (Nat → Int32) → (Nat → Int32) → (Nat → Int32) → (Nat → Int32) → Int32 → Int32 → (Nat → Int32) → (Nat → Int32) → (Nat → Int32) → (Nat → Int32) → (Nat → Int32) → Prop} {PostX : String → Int32 → Int32 → Int32 → (Nat → Int32) → (Nat → Int32) → (Nat → Int32) → (Nat → Int32) → (Nat → Int32) → Int32 → Int32 → (Nat → Int32) → (Nat → Int32) → (Nat → Int32) → (Nat → Int32) → (Nat → Int32) → Prop} {t1 t2 : Int32} {t3 t4 t5 t6 t7 : Nat → Int32} (hO : OkB d) (hR : CRows d rows) (hL : CL d counts taken) (hP : KP d iPF c1 c2 c3 c4 c5 c6 c7)
    (h : ∀ k, k < (lyP d sg0 (dP d)).1 → a1 = nI k → ∀ iPF c1 c2 c3 c4 c5 c6 c7 t1 t2 t3 t4 t5 t6 t7, KP d iPF c1 c2 c3 c4 c5 c6 c7 → Post (helpS d k) iPF c1 c2 c3 c4 c5 c6 c7 t1 t2 t3 t4 t5 t6 t7)
    (hX : ¬ inR a1 (lyP d sg0 (dP d)).1 → ∀ iPF c1 c2 c3 c4 c5 c6 c7 t1 t2 t3 t4 t5 t6 t7, KP d iPF c1 c2 c3 c4 c5 c6 c7 → PostX "java/lang/IndexOutOfBoundsException" iPF c1 c2 c3 c4 c5 c6 c7 t1 t2 t3 t4 t5 t6 t7) :
    wpX6_help iPF (nI (dH d)) (nI (dP d)) rows counts c1 c2 c3 c4 c5 c6 c7 t1 t2 t3 t4 t5 t6 t7 a1 Post PostX := by
  unfold wpX6_help
  refine upF_s hO hR hL hP (fun pages P qc fl fp qs sz hh => ?_)
  have hb := hh.b480 hO
  have e := hh.1.1
  subst e
  have kk : KP d (nI 1) (nI (lyP d sg0 (dP d)).1) P qc fl fp qs sz := Or.inr ⟨rfl, hh⟩
  refine reqPage_s (by omega) ?_ (fun z => hX z _ _ _ _ _ _ _ _ _ _ _ _ _ _ _ kk)
  rintro ⟨k, hk, rfl⟩
  have hk' := h k hk rfl
  have hf := hh.fpn hk
  rw [isWidowP_e hO hh hk]
  unfold helpS at hk'
  cases hw : wdP (lyP d sg0 (dP d)) (fun p => cnt d p (sg0 p)) k
  · rw [hw] at hk'
    exact ⟨fun z => absurd rfl z, fun _ => hk' _ _ _ _ _ _ _ _ _ _ _ _ _ _ _ kk⟩
  · rw [hw] at hk'
    refine ⟨fun _ => ?_, fun z => absurd z (by decide)⟩
    rw [fPar_e hO hh hk]
    have := help_L (PostX := PostX) (iPF := nI 1) (c1 := nI (lyP d sg0 (dP d)).1) (c2 := P) (c3 := qc) (c4 := fl) (c5 := fp) (c6 := qs) (c7 := sz) hO hR hL (show k < 480 by omega) _ (fun t1 t2 t3 t4 t5 t6 t7 => hk' _ _ _ _ _ _ _ _ t1 t2 t3 t4 t5 t6 t7 kk) ((lyP d sg0 (dP d)).2.1 k + 1) (by omega) rfl t1 t2 t3 t4 t5 t6 t7
    rw [if_neg (Nat.succ_ne_zero _), Nat.add_sub_cancel] at this
    exact ⟨_, this⟩
end CHP
