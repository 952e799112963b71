/-! THE CLASS'S PLANNER: lay -/
section CLZ
variable {d : Nat → Int32} {rows costs counts : Nat → Int32} {p : Nat}
theorem lay_lines {Post : (Nat → Int32) → (Nat → Int32) → (Nat → Int32) → (Nat → Int32) → Int32 → Int32 → (Nat → Int32) → (Nat → Int32) → (Nat → Int32) → (Nat → Int32) → (Nat → Int32) → Prop} {K70 : (Nat → Int32) → (Nat → Int32) → (Nat → Int32) → (Nat → Int32) → Int32 → Int32 → (Nat → Int32) → (Nat → Int32) → (Nat → Int32) → (Nat → Int32) → (Nat → Int32) → Int32 → Prop}
    {H L P PP : Int32} {chosen ends rest rob qc qs : Nat → Int32} {q : Pl} {c : Nat} {f : Nat → Nat → Bool} (hO : OkB d) (hp : p < 16) (hc : c ≤ 30) (hq : PlIn d q (p + 1)) (hb : q.1 + c ≤ 480) (hf : ∀ line m, dH d ≤ m → f line m = true) (he : ∀ line, line < c → ∀ m, m ≤ dH d → ends (line * 41 + m) = bI (f line m))
    (hK : ∀ pages fl fp sz, CPl (lyL p f q c) pages fl fp sz → K70 chosen ends rest rob pages PP qc fl fp qs sz (nI (p + 1))) :
    ∀ (r k : Nat) (pages : Int32) (fl fp sz : Nat → Int32), k + r = c → CPl (lyL p f q k) pages fl fp sz → wpX4_lay_L130 H L P costs rows counts Post K70 (r + 1) chosen ends rest rob pages PP qc fl fp qs sz (nI p) (nI c) (nI k)
  | 0, k, pages, fl, fp, sz, hk, hA => by
    unfold wpX4_lay_L130
    have a : nI c ≤ nI k := by rw [nI_leI (by omega) (by omega)]; omega
    refine ⟨fun _ => ?_, fun z => absurd a z⟩
    rw [nI_1]
    rw [show k = c by omega] at hA
    exact hK _ _ _ _ hA
  | r + 1, k, pages, fl, fp, sz, hk, hA => by
    have h40 := hO.h40
    unfold wpX4_lay_L130 wpX4_lay_b168
    have a : ¬ nI c ≤ nI k := by rw [nI_leI (by omega) (by omega)]; omega
    refine ⟨fun z => absurd z a, fun _ => ?_⟩
    have hpg := lyL_pages p f q k
    have hin := PlIn_lyL hO hq (Nat.lt_succ_self p) hf k (by omega)
    have hon := hin.on
    rw [lastPage_e hA (by omega), li41, pk_mul, nI_add, get_e (by omega) (by decide), he k (by omega) _ hon]
    have go : wpX3_addLine pages fl fp sz (nI p) (nI k) (bI (f k (onP (lyL p f q k)))) (fun q3_pages_9 q3_firstLines_9 q3_firstParagraphs_9 q3_sizes_9 => wpX4_lay_L130 H L P costs rows counts Post K70 (r + 1) chosen ends rest rob q3_pages_9 PP qc q3_firstLines_9 q3_firstParagraphs_9 qs q3_sizes_9 (nI p) (nI c) (nI k + 1)) := by
      refine addLine_s hA (by omega) (fun pages' fl' fp' sz' h' => ?_)
      rw [nI_1]
      exact lay_lines hO hp hc hq hb hf he hK r (k + 1) _ _ _ _ (by omega) h'
    cases hh : f k (onP (lyL p f q k))
    · rw [hh] at go
      exact ⟨fun _ => go, fun z => absurd z (by decide)⟩
    · rw [hh] at go
      exact ⟨fun z => absurd rfl z, fun _ => go⟩
/-- what the planner's first walk has done down to paragraph p -/
def DN (d : Nat → Int32) (p : Nat) (chosen rob : Nat → Int32) : Prop := (∀ p', p ≤ p' → p' ≤ dP d → ∀ m, m ≤ dH d → rob (p' * 41 + m) = nI (VR d (dP d - p') m)) ∧ ∀ p', p ≤ p' → p' < dP d → ∀ m, m ≤ dH d → chosen (p' * 41 + m) = nI (bS d p' (VR d (dP d - (p' + 1))) m)
theorem lay_fwd {Post : (Nat → Int32) → (Nat → Int32) → (Nat → Int32) → (Nat → Int32) → Int32 → Int32 → (Nat → Int32) → (Nat → Int32) → (Nat → Int32) → (Nat → Int32) → (Nat → Int32) → Prop} {taken chosen rob : Nat → Int32} (hO : OkB d) (hC : CCosts d costs) (hR : CRows d rows) (hL : CL d counts taken) (hD : DN d 0 chosen rob)
    (h : ∀ ends rest pages P qc fl fp qs sz, CPlan d (lyB d (dP d)) (sgB d) pages P qc fl fp qs sz → Post chosen ends rest rob pages P qc fl fp qs sz) :
    ∀ (r p : Nat) (ends rest : Nat → Int32) (pages : Int32) (qc fl fp qs sz : Nat → Int32), p + r = dP d → CPl (lyB d p) pages fl fp sz → CSet d (sgB d) p qc qs →
      wpX4_lay_L70 (nI (dH d)) (nI (dL d)) (nI (dP d)) costs rows counts Post (r + 1) chosen ends rest rob pages (nI p) qc fl fp qs sz (nI p)
  | 0, p, ends, rest, pages, qc, fl, fp, qs, sz, hp, hA, hB => by
    have h16 := hO.p16
    unfold wpX4_lay_L70
    have a : nI (dP d) ≤ nI p := by rw [nI_leI (by omega) (by omega)]; omega
    refine ⟨fun _ => ?_, fun z => absurd a z⟩
    have e : p = dP d := by omega
    subst e
    exact h _ _ _ _ _ _ _ _ _ ⟨hA, rfl, hB, lyB_ok hO (Nat.le_refl _), fun p hp => bS_lt hO hp _ _⟩
  | r + 1, p, ends, rest, pages, qc, fl, fp, qs, sz, hp, hA, hB => by
    have h16 := hO.p16
    have h40 := hO.h40
    have hpp : p < dP d := by omega
    unfold wpX4_lay_L70
    have a : ¬ nI (dP d) ≤ nI p := by rw [nI_leI (by omega) (by omega)]; omega
    refine ⟨fun z => absurd z a, fun _ => ?_⟩
    have hin := PlIn_lyB hO p (by omega)
    have hon := hin.on
    have hpg := lyB_pages hO p (by omega)
    have hs : sgB d p < 3 := bS_lt hO hpp _ _
    have hc := cnt_le hO hpp (sgB d p)
    rw [lastPage_e hA (by omega), li41, pk_mul, nI_add, get_e (by omega) (by decide), hD.2 p (by omega) hpp _ hon]
    have es : bS d p (VR d (dP d - (p + 1))) (onP (lyB d p)) = sgB d p := rfl
    rw [es, countOf_e hO hL hpp hs]
    refine weigh_s (nx := VR d (dP d - (p + 1))) hO hC hR (fun n => VR_lt hO (by omega) n) hpp hc (fun n hn => hD.1 (p + 1) (Nat.zero_le _) hpp n hn) (fun ends' rest' hW => ?_)
    refine setPar_s (sg := sgB d) (by omega) (fun qc' qs' g1 g2 g3 => ⟨cnt d p (sgB d p) + 1, ?_⟩)
    refine lay_lines (f := enB d p (sgB d p)) hO (by omega) hc (hin.up (by omega)) (by omega) (fun line m hm => by unfold enB en; rw [must_H hO _ hm]; rfl) (fun line hl m hm => ?_) (fun pages' fl' fp' sz' hA' => ?_) (cnt d p (sgB d p)) 0 pages fl fp sz (by omega) hA
    · have := hW.2 (cnt d p (sgB d p) - (line + 1)) (by omega) m hm
      rw [show cnt d p (sgB d p) - (cnt d p (sgB d p) - (line + 1) + 1) = line by omega] at this
      exact this
    · refine lay_fwd hO hC hR hL hD h r (p + 1) ends' rest' pages' qc' fl' fp' qs' sz' (by omega) hA' (fun j hj => ?_)
      by_cases g : j = p
      · subst g; exact ⟨g2, g3⟩
      · rw [(g1 j g).1, (g1 j g).2]; exact hB j (by omega)
theorem lay_back {Post : (Nat → Int32) → (Nat → Int32) → (Nat → Int32) → (Nat → Int32) → Int32 → Int32 → (Nat → Int32) → (Nat → Int32) → (Nat → Int32) → (Nat → Int32) → (Nat → Int32) → Prop} {taken : Nat → Int32} (hO : OkB d) (hC : CCosts d costs) (hR : CRows d rows) (hL : CL d counts taken)
    (h : ∀ chosen ends rest rob pages P qc fl fp qs sz, CPlan d (lyB d (dP d)) (sgB d) pages P qc fl fp qs sz → Post chosen ends rest rob pages P qc fl fp qs sz) :
    ∀ (p : Nat) (chosen ends rest rob : Nat → Int32) (pages PP : Int32) (qc fl fp qs sz : Nat → Int32), p ≤ dP d → DN d p chosen rob →
      wpX4_lay_L44 (nI (dH d)) (nI (dL d)) (nI (dP d)) costs rows counts Post (p + 1) chosen ends rest rob pages PP qc fl fp qs sz (if p = 0 then -1 else nI (p - 1))
  | 0, chosen, ends, rest, rob, pages, PP, qc, fl, fp, qs, sz, hp, hA => by
    unfold wpX4_lay_L44 wpX3_clear
    refine ⟨fun _ => ⟨dP d + 1, ?_⟩, fun z => absurd (by decide) z⟩
    exact lay_fwd hO hC hR hL hA (fun en rs a b c e f g i => h chosen en rs rob a b c e f g i) (dP d) 0 ends rest 0 qc fl fp qs sz (by omega) ⟨rfl, fun k hk => absurd hk (Nat.not_lt_zero _)⟩ (fun p hp => absurd hp (Nat.not_lt_zero _))
  | p + 1, chosen, ends, rest, rob, pages, PP, qc, fl, fp, qs, sz, hp, hA => by
    have h16 := hO.p16
    have h40 := hO.h40
    rw [if_neg (Nat.succ_ne_zero p), Nat.add_sub_cancel]
    unfold wpX4_lay_L44
    have a : ¬ nI p < 0 := nI_pos (by omega)
    refine ⟨fun z => absurd z a, fun _ => ?_⟩
    refine choose_s hO hC hR hL (fun n => VR_lt hO (show dP d - (p + 1) ≤ dP d by omega) n) (by omega) (fun n hn => hA.1 (p + 1) (Nat.le_refl _) hp n hn) (fun chosen' ends' rest' rob' hCH g1 g2 => ?_)
    have ih := lay_back hO hC hR hL h p chosen' ends' rest' rob' pages PP qc fl fp qs sz (by omega) ⟨fun p' h1 h2 m hm => by
      rcases Nat.lt_or_ge p p' with g | g
      · rw [g2 _ (Or.inr (by omega))]; exact hA.1 p' g h2 m hm
      · rw [show p' = p by omega, VR_at (by omega)]; exact (hCH m hm).1, fun p' h1 h2 m hm => by
      rcases Nat.lt_or_ge p p' with g | g
      · rw [g1 _ (Or.inr (by omega))]; exact hA.2 p' g h2 m hm
      · rw [show p' = p by omega]; exact (hCH m hm).2⟩
    by_cases g : p = 0
    · rw [if_pos g] at ih
      rw [show nI p + (-1) = (-1 : Int32) by rw [g]; decide]
      exact ih
    · rw [if_neg g] at ih
      rw [nI_m1 (by omega)]
      exact ih
theorem lay_fill {Post : (Nat → Int32) → (Nat → Int32) → (Nat → Int32) → (Nat → Int32) → Int32 → Int32 → (Nat → Int32) → (Nat → Int32) → (Nat → Int32) → (Nat → Int32) → (Nat → Int32) → Prop} {taken : Nat → Int32} (hO : OkB d) (hC : CCosts d costs) (hR : CRows d rows) (hL : CL d counts taken)
    (h : ∀ chosen ends rest rob pages P qc fl fp qs sz, CPlan d (lyB d (dP d)) (sgB d) pages P qc fl fp qs sz → Post chosen ends rest rob pages P qc fl fp qs sz) (chosen ends rest : Nat → Int32) (pages PP : Int32) (qc fl fp qs sz : Nat → Int32) :
    ∀ (r n : Nat) (rob : Nat → Int32), n + r = dH d + 1 → (∀ m, m < n → rob (dP d * 41 + m) = nI 0) →
      wpX4_lay_L3 (nI (dH d)) (nI (dL d)) (nI (dP d)) costs rows counts Post (r + 1) chosen ends rest rob pages PP qc fl fp qs sz (nI n)
  | 0, n, rob, hn, hA => by
    have h16 := hO.p16
    have h40 := hO.h40
    unfold wpX4_lay_L3
    have a : nI (dH d) < nI n := by rw [nI_ltI (by omega) (by omega)]; omega
    refine ⟨fun _ => ⟨dP d + 1, ?_⟩, fun z => absurd a z⟩
    have := lay_back hO hC hR hL h (dP d) chosen ends rest rob pages PP qc fl fp qs sz (Nat.le_refl _) ⟨fun p' h1 h2 m hm => by
      rw [show p' = dP d by omega, Nat.sub_self, hA m (by omega)]
      rfl, fun p' h1 h2 => by omega⟩
    by_cases g : dP d = 0
    · rw [if_pos g] at this
      rw [show nI (dP d) - 1 = (-1 : Int32) by rw [g]; decide]
      exact this
    · rw [if_neg g] at this
      rw [li1, sm_sub (by omega)]
      exact this
  | r + 1, n, rob, hn, hA => by
    have h16 := hO.p16
    have h40 := hO.h40
    unfold wpX4_lay_L3
    have a : ¬ nI (dH d) < nI n := by rw [nI_ltI (by omega) (by omega)]; omega
    refine ⟨fun z => absurd z a, fun _ => ?_⟩
    rw [li41, pk_mul, nI_add, put_e (by omega) (by decide), nI_1]
    refine lay_fill hO hC hR hL h chosen ends rest pages PP qc fl fp qs sz r (n + 1) _ (by omega) (fun m hm => ?_)
    by_cases g : m = n
    · subst g; rw [pk_us]; rfl
    · rw [pk_un (by omega)]; exact hA m (by omega)
theorem lay_s {Post : (Nat → Int32) → (Nat → Int32) → (Nat → Int32) → (Nat → Int32) → Int32 → Int32 → (Nat → Int32) → (Nat → Int32) → (Nat → Int32) → (Nat → Int32) → (Nat → Int32) → Prop} {taken chosen ends rest rob qc fl fp qs sz : Nat → Int32} {pages PP : Int32} (hO : OkB d) (hC : CCosts d costs) (hR : CRows d rows) (hL : CL d counts taken)
    (h : ∀ chosen ends rest rob pages P qc fl fp qs sz, CPlan d (lyB d (dP d)) (sgB d) pages P qc fl fp qs sz → Post chosen ends rest rob pages P qc fl fp qs sz) : wpX4_lay chosen ends rest rob (nI (dH d)) (nI (dL d)) (nI (dP d)) costs rows counts pages PP qc fl fp qs sz Post :=
  ⟨_, lay_fill hO hC hR hL h chosen ends rest pages PP qc fl fp qs sz (dH d + 1) 0 rob (by omega) (fun m hm => absurd hm (Nat.not_lt_zero _))⟩
end CLZ
