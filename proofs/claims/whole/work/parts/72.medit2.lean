/-! THE REFERENCE'S CHANGES: insert, retouch -/
section MEE
variable {d : Nat → Int32} {hist : Nat → Nat → Int32} {n p : Nat} {a1 a2 a3 th : Int32} {ll : Nat → Int32}
/-- '1 <= x <= M' and its like -/
theorem inLo_s {x : Int32} {lo hi : Nat} {Post : Int32 → Prop} (hl : lo < 2 ^ 31) (hh : hi < 2 ^ 31) (hT : ∀ i, lo ≤ i → i ≤ hi → x = nI i → Post 1) (hF : (¬ ∃ i, lo ≤ i ∧ i ≤ hi ∧ x = nI i) → Post 0) : wpX7_in x (nI lo) (nI hi) Post := by
  rcases i_cases x with hx | ⟨i, hi2, rfl⟩
  · refine in_s (fun z _ => absurd (of_eq_true (neg_lt' hx hl)) z) (fun _ => hF ?_)
    rintro ⟨i, h1, h2, rfl⟩
    exact absurd hx (nI_pos (by omega))
  · by_cases g : lo ≤ i ∧ i ≤ hi
    · exact in_s (fun _ _ => hT i g.1 g.2 rfl) (fun z => z.elim (fun z => absurd z (nI_nlt g.1 hi2)) (fun z => absurd z (nI_nlt g.2 hh)))
    · have hn : ¬ ∃ j, lo ≤ j ∧ j ≤ hi ∧ nI i = nI j := by
        rintro ⟨j, h1, h2, e⟩
        have := (nI_eq hi2 (by omega)).mp e
        omega
      refine in_s (fun z1 z2 => ?_) (fun _ => hF hn)
      exfalso
      rcases Nat.lt_or_ge i lo with g1 | g1
      · exact z1 (nI_lt g1 hl)
      · exact z2 (nI_lt (by omega) hi2)
theorem isLen_s {lo : Nat} {Post : Int32 → Prop} (hO : OkB d) (hl : lo < 2 ^ 31) (hT : ∀ i, lo ≤ i → i ≤ dW d - dS d → a3 = nI i → Post 1) (hF : (¬ ∃ i, lo ≤ i ∧ i ≤ dW d - dS d ∧ a3 = nI i) → Post 0) : wpX7_isLength d a3 (nI lo) Post := by
  have h1 := hO.w10
  have h2 := hO.w60
  have h3 := hO.s9
  unfold wpX7_isLength
  rw [show d (0 : Int32).toNatClampNeg = nI (dW d) from hO.w, show d (2 : Int32).toNatClampNeg = nI (dS d) from hO.s, sm_sub (by omega)]
  refine ⟨vp_in_nI (n := 0) (by decide) (by decide), vp_in_nI (n := 2) (by decide) (by decide), inLo_s hl (by omega) (fun i h1 h2 e => ⟨Or.inr rfl, hT i h1 h2 e⟩) (fun hh => ⟨Or.inl rfl, hF hh⟩)⟩
/-- the row when the paragraphs behind have moved -/
def insA (d : Nat → Int32) (at_ : Nat) : Nat → Int32 := fun j => if 11 + 34 * at_ + 34 ≤ j ∧ j < 11 + 34 * (dP d + 1) then d (j - 34) else d j
theorem insM_B {Post : Int32 → Int32 → Int32 → (Nat → Int32) → (Nat → Nat → Int32) → Prop} {H : Nat → Nat → Int32} {D : Int32} {at_ words len : Nat} {A1 : Int32} (ha : at_ < 16) (hw1 : 1 ≤ words) (hw : words ≤ 30) (hP : dP d < 16) (h4 : d 4 = nI (dP d)) (hap : at_ ≤ dP d)
    (h : Post (nI (dP d + 1)) 0 D (insD d at_ words len) H) :
    ∀ (r k : Nat) (q : Nat → Int32), k + r = 34 → (∀ j, q j = if 11 + 34 * at_ ≤ j ∧ j < 11 + 34 * at_ + k then (if 11 + 34 * at_ + 4 ≤ j ∧ j < 11 + 34 * at_ + 4 + words then nI len else nI 0) else insA d at_ j) → wpX7_insert_L135 A1 (nI words) (nI len) Post (r + 1) 0 D q H (nI (11 + 34 * at_)) (nI k)
  | 0, k, q, hk, hA => by
    unfold wpX7_insert_L135
    have a : (34 : Int32) ≤ nI k := by rw [li34, nI_leI (by omega) (by omega)]; omega
    refine ⟨fun _ => ?_, fun z => absurd a z⟩
    rw [show nI (11 + 34 * at_) + 2 = nI (11 + 34 * at_ + 2) from nI_add _ 2, show nI (11 + 34 * at_) + 3 = nI (11 + 34 * at_ + 3) from nI_add _ 3, nI_clamp (show 11 + 34 * at_ + 2 < 2 ^ 31 by omega), nI_clamp (show 11 + 34 * at_ + 3 < 2 ^ 31 by omega), show (4 : Int32).toNatClampNeg = 4 from rfl]
    refine ⟨vp_in_nI (by omega) (by decide), vp_in_nI (by omega) (by decide), vp_in_nI (n := 4) (by decide) (by decide), vp_in_nI (n := 4) (by decide) (by decide), vp_in_nI (n := 4) (by decide) (by decide), ?_⟩
    have e4 : upd (upd q (11 + 34 * at_ + 2) (-1)) (11 + 34 * at_ + 3) (nI words) 4 + 1 = nI (dP d + 1) := by
      rw [pk_un (by omega), pk_un (by omega), hA 4, if_neg (by omega)]
      unfold insA
      rw [if_neg (by omega), h4, nI_1]
    rw [e4, pk_us]
    have e : upd (upd (upd q (11 + 34 * at_ + 2) (-1)) (11 + 34 * at_ + 3) (nI words)) 4 (nI (dP d + 1)) = insD d at_ words len := funext fun j => by
      unfold insD
      by_cases g4 : j = 4
      · rw [if_pos g4, g4, pk_us]
      · rw [if_neg g4, pk_un g4]
        by_cases g3 : j = 11 + 34 * at_ + 3
        · rw [g3, pk_us, if_neg (by omega), if_pos (by omega), if_neg (by omega), if_pos rfl]
        · rw [pk_un g3]
          by_cases g2 : j = 11 + 34 * at_ + 2
          · rw [g2, pk_us, if_neg (by omega), if_pos (by omega), if_pos rfl]
          · rw [pk_un g2, hA j]
            have hk34 : k = 34 := by omega
            subst hk34
            unfold insA
            by_cases c1 : j < 11 + 34 * at_
            · rw [if_neg (by omega), if_neg (by omega), if_pos c1]
            · rw [if_neg c1]
              by_cases c2 : j < 11 + 34 * at_ + 34
              · rw [if_pos (by omega), if_pos c2, if_neg g2, if_neg g3]
              · rw [if_neg (by omega), if_neg c2]
                by_cases c3 : j < 11 + 34 * (dP d + 1)
                · rw [if_pos (by omega), if_pos c3]
                · rw [if_neg (by omega), if_neg c3]
    rw [e]
    exact h
  | r + 1, k, q, hk, hA => by
    unfold wpX7_insert_L135 wpX7_insert_b170
    have a : ¬ (34 : Int32) ≤ nI k := by rw [li34, nI_leI (by omega) (by omega)]; omega
    refine ⟨fun z => absurd z a, fun _ => ?_⟩
    have go : ∀ x, x = (if 4 ≤ k ∧ k < 4 + words then nI len else nI 0) → vp_in (nI (11 + 34 * at_) + nI k) 555 ∧ wpX7_insert_L135 A1 (nI words) (nI len) Post (r + 1) 0 D (upd q (nI (11 + 34 * at_) + nI k).toNatClampNeg x) H (nI (11 + 34 * at_)) (nI k + (1 : Int32)) := by
      intro x hx
      rw [nI_add, nI_clamp (by omega), nI_1]
      refine ⟨vp_in_nI (by omega) (by decide), insM_B ha hw1 hw hP h4 hap h r (k + 1) _ (by omega) (fun j => ?_)⟩
      by_cases g : j = 11 + 34 * at_ + k
      · subst g
        rw [pk_us, if_pos (by omega), hx]
        by_cases c : 4 ≤ k ∧ k < 4 + words
        · rw [if_pos c, if_pos (by omega)]
        · rw [if_neg c, if_neg (by omega)]
      · rw [pk_un g, hA j]
        by_cases c : 11 + 34 * at_ ≤ j ∧ j < 11 + 34 * at_ + k
        · rw [if_pos c, if_pos (show 11 + 34 * at_ ≤ j ∧ j < 11 + 34 * at_ + (k + 1) by omega)]
        · rw [if_neg c, if_neg (show ¬ (11 + 34 * at_ ≤ j ∧ j < 11 + 34 * at_ + (k + 1)) by omega)]
    have hin : (4 ≤ k ∧ k < 4 + words) ↔ inR (nI k - 4) words := by
      by_cases c : 4 ≤ k
      · rw [li4, sm_sub c]
        constructor
        · exact fun z => ⟨k - 4, by omega, rfl⟩
        · rintro ⟨i, hi, e⟩
          have := (nI_eq (by omega) (by omega)).mp e
          omega
      · constructor
        · intro z; omega
        · rintro ⟨i, hi, e⟩
          exfalso
          have := pk_sneg (a := k) (b := 4) (by decide) (by omega)
          rw [show nI k - 4 = nI k - nI 4 from rfl] at e
          rw [e] at this
          exact absurd this (nI_pos (by omega))
    refine inN_s (by omega) (fun i hi e => ⟨fun z => absurd z (by decide), fun _ => go _ ?_⟩) (fun hh => ⟨fun _ => go _ ?_, fun z => absurd rfl z⟩)
    · rw [if_pos (hin.mpr ⟨i, hi, e⟩)]
    · rw [if_neg (fun z => hh (hin.mp z))]
      rfl
theorem insM_A {Post : Int32 → Int32 → Int32 → (Nat → Int32) → (Nat → Nat → Int32) → Prop} {H : Nat → Nat → Int32} {D : Int32} {at_ words len : Nat} (ha : at_ ≤ dP d) (hw1 : 1 ≤ words) (hw : words ≤ 30) (hP : dP d < 16) (h4 : d 4 = nI (dP d))
    (h : Post (nI (dP d + 1)) 0 D (insD d at_ words len) H) :
    ∀ (r m : Nat) (q : Nat → Int32), 11 + 34 * at_ + r = m → m ≤ 11 + 34 * dP d → (∀ j, q j = if m + 34 ≤ j ∧ j < 11 + 34 * (dP d + 1) then d (j - 34) else d j) → wpX7_insert_L94 (nI at_) (nI words) (nI len) Post (r + 1) 0 D q H (nI (m - 1))
  | 0, m, q, hm, hm2, hA => by
    unfold wpX7_insert_L94 wpX7_at
    rw [show (11 : Int32) + (34 : Int32) * nI at_ = nI (11 + 34 * at_) by rw [li11, li34, pk_mul, nI_add]]
    have a : nI (m - 1) < nI (11 + 34 * at_) := by rw [nI_ltI (by omega) (by omega)]; omega
    refine ⟨fun _ => ⟨34 + 1, ?_⟩, fun z => absurd a z⟩
    exact insM_B (by omega) hw1 hw hP h4 ha h 34 0 q rfl (fun j => by
      rw [hA j, ← hm]
      rw [if_neg (show ¬ (11 + 34 * at_ ≤ j ∧ j < 11 + 34 * at_ + 0) by omega)]
      rfl)
  | r + 1, m, q, hm, hm2, hA => by
    unfold wpX7_insert_L94 wpX7_at
    rw [show (11 : Int32) + (34 : Int32) * nI at_ = nI (11 + 34 * at_) by rw [li11, li34, pk_mul, nI_add]]
    have a : ¬ nI (m - 1) < nI (11 + 34 * at_) := by rw [nI_ltI (by omega) (by omega)]; omega
    refine ⟨fun z => absurd z a, fun _ => ?_⟩
    rw [show nI (m - 1) + 34 = nI (m - 1 + 34) from nI_add _ 34, nI_clamp (show m - 1 + 34 < 2 ^ 31 by omega), nI_clamp (show m - 1 < 2 ^ 31 by omega), nI_m1 (by omega)]
    refine ⟨vp_in_nI (by omega) (by decide), vp_in_nI (by omega) (by decide), ?_⟩
    refine insM_A ha hw1 hw hP h4 h r (m - 1) _ (by omega) (by omega) (fun j => ?_)
    by_cases g : j = m - 1 + 34
    · subst g
      rw [pk_us, if_pos (by omega), hA, if_neg (by omega)]
      exact congrArg d (by omega)
    · rw [pk_un g, hA j]
      by_cases c : m + 34 ≤ j ∧ j < 11 + 34 * (dP d + 1)
      · rw [if_pos c, if_pos (by omega)]
      · rw [if_neg c, if_neg (by omega)]
theorem insertM_s {Post : Int32 → Int32 → Int32 → (Nat → Int32) → (Nat → Nat → Int32) → Prop} (hO : OkB d) (hn : n ≤ 8) (h : ∀ at_ w l, at_ ≤ dP d → a1 = nI at_ → 1 ≤ w → w ≤ 30 → a2 = nI w → 1 ≤ l → l ≤ dW d - dS d → a3 = nI l → dP d < 16 → ∀ hist', (∀ i, i < pushN n → E5 (pushH hist n d i) (hist' i)) → Post (nI (dP d + 1)) 0 (nI (pushN n)) (insD d at_ w l) hist')
    (hX1 : ¬ okIns d a1 a2 a3 → Post 0 1 (nI n) d hist) (hX2 : okIns d a1 a2 a3 → 16 ≤ dP d → Post 0 2 (nI n) d hist) : wpX7_insert th (nI n) d hist a1 a2 a3 Post := by
  have h16 := hO.p16
  unfold wpX7_insert wpX7_insert_b39
  rw [show d (4 : Int32).toNatClampNeg = nI (dP d) from hO.p]
  have bad : ¬ okIns d a1 a2 a3 → wpX7_insert_b44 a1 a2 a3 Post 0 (nI n) d hist (1 : Int32) := fun hh => by
    unfold wpX7_insert_b44
    rw [fails_1 (by decide)]
    exact ⟨fun _ => hX1 hh, fun z => absurd z (by decide)⟩
  refine ⟨vp_in_nI (n := 4) (by decide) (by decide), inLo_s (lo := 0) (by decide) (by omega) (fun at_ _ q1 e1 => ?_) (fun hh => ⟨fun _ => bad (fun z => ?_), fun z => absurd rfl z⟩)⟩
  · subst e1
    refine ⟨fun z => absurd z (by decide), fun _ => inLo_s (lo := 1) (hi := 30) (by decide) (by decide) (fun w w1 w2 e2 => ?_) (fun hh => ⟨fun _ => bad (fun z => hh ?_), fun z => absurd rfl z⟩)⟩
    · subst e2
      refine ⟨fun z => absurd z (by decide), fun _ => isLen_s (lo := 1) hO (by decide) (fun l l1 l2 e3 => ?_) (fun hh => ⟨fun z => absurd rfl z, fun _ => bad (fun z => hh z.2.2)⟩)⟩
      subst e3
      have ok : okIns d (nI at_) (nI w) (nI l) := ⟨⟨at_, by omega, rfl⟩, ⟨w, w1, w2, rfl⟩, ⟨l, l1, l2, rfl⟩⟩
      refine ⟨fun _ => ?_, fun z => absurd z (by decide)⟩
      unfold wpX7_insert_b44 wpX7_insert_b68
      rw [fails_0, show d (4 : Int32).toNatClampNeg = nI (dP d) from hO.p]
      refine ⟨fun z => absurd rfl z, fun _ => ⟨vp_in_nI (n := 4) (by decide) (by decide), fun z => ?_, fun z => ?_⟩⟩
      · have hP : dP d < 16 := by
          rcases Nat.lt_or_ge (dP d) 16 with g | g
          · exact g
          · exact absurd (by rw [show dP d = 16 by omega]; rfl) z
        rw [fails_0]
        refine ⟨fun _ => remember_s hn (fun hist' hh => ⟨vp_in_nI (n := 4) (by decide) (by decide), ?_⟩), fun z => absurd rfl z⟩
        unfold wpX7_at
        rw [show (11 : Int32) + (34 : Int32) * nI (dP d) = nI (11 + 34 * dP d) by rw [li11, li34, pk_mul, nI_add], li1]
        dsimp only
        rw [sm_sub (by omega)]
        refine ⟨(34 * dP d - 34 * at_) + 1, ?_⟩
        exact insM_A q1 w1 w2 hP hO.p (h at_ w l q1 rfl w1 w2 rfl l1 l2 rfl hP hist' hh) (34 * dP d - 34 * at_) (11 + 34 * dP d) d (by omega) (Nat.le_refl _) (fun j => by rw [if_neg (by omega)])
      · have hP : 16 ≤ dP d := by have := (nI_eq (b := 16) (by omega) (by decide)).mp z; omega
        rw [fails_1 (by decide)]
        exact ⟨fun z => absurd z (by decide), fun _ => hX2 ok hP⟩
    · exact z.2.1
  · obtain ⟨⟨i, hi, e⟩, -⟩ := z
    exact hh ⟨i, Nat.zero_le _, by omega, e⟩
theorem retM_L {Post : Int32 → Int32 → Int32 → (Nat → Int32) → (Nat → Nat → Int32) → (Nat → Int32) → Prop} {H : Nat → Nat → Int32} {D A2 A3 : Int32} {k words : Nat} (hp : p < 16) (hw : words ≤ 30) (hw1 : 1 ≤ words) (h3 : d (11 + 34 * p + 3) = nI words)
    (h : ∀ q, (∀ j, q j = if j = 11 + 34 * p + 3 then nI (words - 1) else if 11 + 34 * p + (4 + k) ≤ j ∧ j < 11 + 34 * p + (4 + (words - 1)) then d (j + 1) else d j) → wpX7_retouch_b216 (nI p) A2 A3 Post 0 D q H ll) :
    ∀ (r i : Nat) (q : Nat → Int32), k ≤ i → i + r = words - 1 → (∀ j, q j = if 11 + 34 * p + (4 + k) ≤ j ∧ j < 11 + 34 * p + (4 + i) then d (j + 1) else d j) → wpX7_retouch_L162 (nI p) A2 A3 Post (r + 1) 0 D q H ll (nI (11 + 34 * p)) (nI words) (nI i)
  | 0, i, q, h0, hi, hA => by
    unfold wpX7_retouch_L162
    rw [show nI words - 1 = nI (words - 1) from sm_sub hw1, show nI (11 + 34 * p) + 3 = nI (11 + 34 * p + 3) from nI_add _ 3, nI_clamp (by omega)]
    have a : nI (words - 1) ≤ nI i := by rw [nI_leI (by omega) (by omega)]; omega
    refine ⟨fun _ => ⟨vp_in_nI (by omega) (by decide), vp_in_nI (by omega) (by decide), h _ (fun j => ?_)⟩, fun z => absurd a z⟩
    by_cases g : j = 11 + 34 * p + 3
    · rw [g, pk_us, if_pos rfl, hA, if_neg (by omega), h3]
      exact sm_sub hw1
    · rw [pk_un g, if_neg g, hA j, show i = words - 1 by omega]
  | r + 1, i, q, h0, hi, hA => by
    unfold wpX7_retouch_L162
    have a : ¬ nI words - 1 ≤ nI i := by rw [show nI words - 1 = nI (words - 1) from sm_sub hw1, nI_leI (by omega) (by omega)]; omega
    refine ⟨fun z => absurd z a, fun _ => ?_⟩
    rw [show nI (11 + 34 * p) + 4 = nI (11 + 34 * p + 4) from nI_add _ 4, nI_add, nI_1, nI_1, nI_clamp (show 11 + 34 * p + 4 + i < 2 ^ 31 by omega), nI_clamp (show 11 + 34 * p + 4 + i + 1 < 2 ^ 31 by omega)]
    refine ⟨vp_in_nI (by omega) (by decide), vp_in_nI (by omega) (by decide), ?_⟩
    refine retM_L hp hw hw1 h3 h r (i + 1) _ (by omega) (by omega) (fun j => ?_)
    by_cases g : j = 11 + 34 * p + 4 + i
    · rw [g, pk_us, if_pos (by omega), hA, if_neg (by omega)]
    · rw [pk_un g, hA j]
      by_cases c : 11 + 34 * p + (4 + k) ≤ j ∧ j < 11 + 34 * p + (4 + i)
      · rw [if_pos c, if_pos (by omega)]
      · rw [if_neg c, if_neg (by omega)]
theorem retouchM_s {Post : Int32 → Int32 → Int32 → (Nat → Int32) → (Nat → Nat → Int32) → (Nat → Int32) → Prop} (hO : OkB d) (hn : n ≤ 8)
    (h : ∀ p k l, p < dP d → a1 = nI p → k ≤ dN d p → a2 = nI k → l ≤ dW d - dS d → a3 = nI l → ¬ (l = 0 ∧ k = dN d p) → ¬ badRet d p k l → ∀ hist' ll, (∀ i, i < pushN n → E5 (pushH hist n d i) (hist' i)) → Post (nI (cnt (retD d p k l) p 0)) 0 (nI (pushN n)) (retD d p k l) hist' ll)
    (hX1 : ¬ inR a1 (dP d) → ∀ ll, Post 0 1 (nI n) d hist ll) (hX2 : ∀ p, p < dP d → a1 = nI p → ¬ okRet d p a2 a3 → ∀ ll, Post 0 2 (nI n) d hist ll)
    (hX3 : ∀ p k l, p < dP d → a1 = nI p → k ≤ dN d p → a2 = nI k → l ≤ dW d - dS d → a3 = nI l → ¬ (l = 0 ∧ k = dN d p) → badRet d p k l → ∀ ll, Post 0 3 (nI n) d hist ll) : wpX7_retouch th (nI n) d hist ll a1 a2 a3 Post := by
  have h16 := hO.p16
  have hw60 := hO.w60
  unfold wpX7_retouch wpX7_at
  refine noPar_s hO (fun p hp e => ?_) (fun hh => ?_)
  · subst e
    have n30 := hO.n30 hp
    have n1 := hO.n1 hp
    refine ⟨fun _ => ?_, fun z => absurd rfl z⟩
    rw [show (11 : Int32) + (34 : Int32) * nI p = nI (11 + 34 * p) by rw [li11, li34, pk_mul, nI_add]]
    dsimp only
    rw [show nI (11 + 34 * p) + 3 = nI (11 + 34 * p + 3) from nI_add _ 3, nI_clamp (show 11 + 34 * p + 3 < 2 ^ 31 by omega), hO.n hp]
    have bad : ¬ okRet d p a2 a3 → wpX7_retouch_b62 (nI p) a2 a3 Post 0 (nI n) d hist ll (nI (11 + 34 * p)) (nI (dN d p)) := fun hh => by
      unfold wpX7_retouch_b62 wpX7_retouch_b67
      rw [fails_1 (by decide)]
      exact ⟨fun _ => hX2 p hp rfl hh ll, fun z => absurd z (by decide)⟩
    refine ⟨vp_in_nI (by omega) (by decide), inLo_s (lo := 0) (by decide) (by omega) (fun k _ k1 e2 => ?_) (fun hh => ⟨fun _ => bad (fun z => ?_), fun z => absurd rfl z⟩)⟩
    · subst e2
      refine ⟨fun z => absurd z (by decide), fun _ => isLen_s (lo := 0) hO (by decide) (fun l _ l1 e3 => ?_) (fun hh => ⟨fun _ => bad (fun z => ?_), fun z => absurd rfl z⟩)⟩
      · subst e3
        have ek : (nI k = nI (dN d p)) ↔ k = dN d p := nI_eq (by omega) (by omega)
        have el : (nI l = (0 : Int32)) ↔ l = 0 := nI_eq (b := 0) (by omega) (by decide)
        refine ⟨fun z => absurd z (by decide), fun _ => ?_⟩
        have good : ¬ (l = 0 ∧ k = dN d p) → wpX7_retouch_b66 (nI p) (nI k) (nI l) Post 0 (nI n) d hist ll (nI (11 + 34 * p)) (nI (dN d p)) := fun nb => by
          unfold wpX7_retouch_b66 wpX7_retouch_b67
          rw [fails_0]
          refine ⟨fun z => absurd rfl z, fun _ => ?_⟩
          have f1 : badRet d p k l → wpX7_retouch_b104 (nI p) (nI k) (nI l) Post 0 (nI n) d hist ll (nI (11 + 34 * p)) (nI (dN d p)) (1 : Int32) := fun hb => by
            unfold wpX7_retouch_b104
            rw [fails_1 (by decide)]
            exact ⟨fun z => absurd z (by decide), fun _ => hX3 p k l hp rfl k1 rfl l1 rfl nb hb ll⟩
          have f0 : ¬ badRet d p k l → wpX7_retouch_b104 (nI p) (nI k) (nI l) Post 0 (nI n) d hist ll (nI (11 + 34 * p)) (nI (dN d p)) (0 : Int32) := fun hb => by
            have hb0 := hb
            unfold badRet at hb
            have c0 : l = 0 → k < dN d p ∧ dN d p ≠ 1 := fun e => by omega
            have c1 : l ≠ 0 → k < 30 := fun e => by omega
            obtain ⟨hO', hP', -⟩ := ret_ok hO hp k1 (show l ≤ 60 by omega) c0 c1
            unfold wpX7_retouch_b104
            rw [fails_0]
            refine ⟨fun _ => remember_s hn (fun hist' hh => ?_), fun z => absurd rfl z⟩
            have fin : ∀ q, q = retD d p k l → wpX7_retouch_b216 (nI p) (nI k) (nI l) Post 0 (nI (pushN n)) q hist' ll := fun q e => by
              subst e
              unfold wpX7_retouch_b216
              exact layLines_s (s := 0) hO' (by rw [hP']; exact hp) (by decide) (fun ll' _ => h p k l hp rfl k1 rfl l1 rfl nb hb0 hist' ll' hh)
            refine ⟨fun z => ?_, fun z => ?_⟩
            · have l0 : l = 0 := by have := (nI_leI (b := 0) (by omega) (by decide)).mp z; omega
              have ck := c0 l0
              refine ⟨(dN d p - 1 - k) + 1, ?_⟩
              refine retM_L (k := k) (words := dN d p) (by omega) n30 n1 (hO.n hp) (fun q hq => fin q (funext fun j => ?_)) (dN d p - 1 - k) k d (Nat.le_refl _) (by omega) (fun j => by rw [if_neg (by omega)])
              rw [hq j]
              unfold retD
              rw [if_pos l0]
            · have l0 : l ≠ 0 := fun e => z (by rw [e]; decide)
              have ck := c1 l0
              rw [show nI (11 + 34 * p) + 4 = nI (11 + 34 * p + 4) from nI_add _ 4, show nI (11 + 34 * p) + 3 = nI (11 + 34 * p + 3) from nI_add _ 3, nI_add, nI_clamp (show 11 + 34 * p + 4 + k < 2 ^ 31 by omega), nI_clamp (show 11 + 34 * p + 3 < 2 ^ 31 by omega), pk_un (show 11 + 34 * p + 3 ≠ 11 + 34 * p + 4 + k by omega), hO.n hp]
              unfold wpX7_retouch_b154
              rw [nI_clamp (show 11 + 34 * p + 3 < 2 ^ 31 by omega)]
              refine ⟨vp_in_nI (by omega) (by decide), vp_in_nI (by omega) (by decide), fun y => ⟨vp_in_nI (by omega) (by decide), fin _ (funext fun j => ?_)⟩, fun y => ⟨vp_in_nI (by omega) (by decide), fin _ (funext fun j => ?_)⟩⟩
              · have hk : k ≠ dN d p := fun e => y (ek.mpr e)
                unfold retD
                rw [if_neg l0, if_neg hk]
                by_cases g3 : j = 11 + 34 * p + 3
                · rw [g3, pk_us, if_neg (by omega), if_pos rfl]
                  exact nI_add _ 0
                · rw [pk_un g3]
                  by_cases g4 : j = 11 + 34 * p + 4 + k
                  · rw [g4, pk_us, if_pos (by omega)]
                  · rw [pk_un g4, if_neg (by omega), if_neg g3]
              · have hk : k = dN d p := ek.mp y
                unfold retD
                rw [if_neg l0, if_pos hk]
                by_cases g3 : j = 11 + 34 * p + 3
                · rw [g3, pk_us, if_neg (by omega), if_pos rfl]
                  exact nI_add _ 1
                · rw [pk_un g3]
                  by_cases g4 : j = 11 + 34 * p + 4 + k
                  · rw [g4, pk_us, if_pos (by omega)]
                  · rw [pk_un g4, if_neg (by omega), if_neg g3]
          refine ⟨fun z => ?_, fun z => ?_⟩
          · have l0 : l ≠ 0 := fun e => z (el.mpr e)
            refine ⟨fun y => f0 (fun hb => ?_), fun y => f1 ?_⟩
            · have k30 : k ≠ 30 := fun e => y (by rw [e]; rfl)
              unfold badRet at hb
              omega
            · have k30 : k = 30 := (nI_eq (b := 30) (by omega) (by decide)).mp y
              exact Or.inr (by omega)
          · have l0 : l = 0 := el.mp z
            refine ⟨fun y => f0 (fun hb => ?_), fun y => f1 ?_⟩
            · have w1 : dN d p ≠ 1 := fun e => y (by rw [e]; rfl)
              unfold badRet at hb
              omega
            · have w1 : dN d p = 1 := (nI_eq (b := 1) (by omega) (by decide)).mp y
              exact Or.inl ⟨l0, w1⟩
        refine ⟨fun z => good (fun y => z (ek.mpr y.2)), fun z => ⟨fun y => good (fun x => y (el.mpr x.1)), fun y => bad (fun x => ?_)⟩⟩
        obtain ⟨k', l', q1, e1, q2, e2, q3⟩ := x
        have := (nI_eq (by omega) (by omega)).mp e1
        have := (nI_eq (by omega) (by omega)).mp e2
        subst k' l'
        exact q3 ⟨el.mp y, ek.mp z⟩
      · obtain ⟨k', l', q1, e1, q2, e2, q3⟩ := z
        exact hh ⟨l', Nat.zero_le _, q2, e2⟩
    · obtain ⟨k', l', q1, e1, q2, e2, q3⟩ := z
      exact hh ⟨k', Nat.zero_le _, q1, e1⟩
  · exact ⟨fun z => absurd z (by decide), fun _ => hX1 hh ll⟩
end MEE
