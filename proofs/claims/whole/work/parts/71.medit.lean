/-! THE REFERENCE'S CHANGES -/
/-- two rows agree where a book lies -/
def E5 (a b : Nat → Int32) : Prop := ∀ j, j < 555 → b j = a j
section E5S
variable {a b : Nat → Int32}
theorem E5.w (h : E5 a b) : dW b = dW a := congrArg nz (h 0 (by decide))
theorem E5.h (h : E5 a b) : dH b = dH a := congrArg nz (h 1 (by decide))
theorem E5.s (h : E5 a b) : dS b = dS a := congrArg nz (h 2 (by decide))
theorem E5.l (h : E5 a b) : dL b = dL a := congrArg nz (h 3 (by decide))
theorem E5.p (h : E5 a b) : dP b = dP a := congrArg nz (h 4 (by decide))
theorem E5.c (h : E5 a b) {k : Nat} (hk : k < 6) : dC b k = dC a k := congrArg nz (h _ (by omega))
theorem E5.par (h : E5 a b) {p : Nat} (hp : p < 16) : ParEq a p b p := fun k hk => h _ (by omega)
theorem E5.ok (h : E5 a b) (hO : OkB a) : OkB b := by
  have h16 := hO.p16
  refine ⟨⟨?_, ?_, ?_⟩, ⟨?_, ?_, ?_⟩, ⟨?_, ?_⟩, ⟨?_, ?_⟩, ⟨?_, ?_⟩, fun k hk => ⟨?_, ?_⟩, fun p hpp => (h.par (by rw [h.p] at hpp; omega)).ok (hO.par (by rw [h.p] at hpp; exact hpp))⟩
  · rw [h 0 (by decide), h.w]; exact hO.w
  · rw [h.w]; exact hO.w10
  · rw [h.w]; exact hO.w60
  · rw [h 1 (by decide), h.h]; exact hO.h
  · rw [h.h]; exact hO.h2
  · rw [h.h]; exact hO.h40
  · rw [h 2 (by decide), h.s]; exact hO.s
  · rw [h.s]; exact hO.s9
  · rw [h 3 (by decide), h.l]; exact hO.l
  · rw [h.l]; exact hO.l9
  · rw [h 4 (by decide), h.p]; exact hO.p
  · rw [h.p]; exact h16
  · rw [h _ (by omega), h.c hk]; exact hO.c hk
  · rw [h.c hk]; exact hO.c999 hk
theorem E5.cb (h : E5 a b) (hO : OkB a) {w hh s l P : Int32} {costs rows : Nat → Int32} (hB : CB a w hh s l P costs rows) : CB b w hh s l P costs rows := by
  obtain ⟨h1, h2, h3, h4, h5, h6, h7⟩ := hB
  have h16 := hO.p16
  refine ⟨by rw [h.w]; exact h1, by rw [h.h]; exact h2, by rw [h.s]; exact h3, by rw [h.l]; exact h4, by rw [h.p]; exact h5, fun k hk => by rw [h.c hk]; exact h6 k hk, fun p hp => ?_⟩
  rw [h.p] at hp
  exact CPar_eq (hO.n30 hp) (h7 p hp) (h.par (by omega)) (fun k hk => rfl)
end E5S
theorem CHist_5 {hist hist' : Nat → Nat → Int32} {n : Nat} {hn hk : Int32} {hW hH hS hL hP : Nat → Int32} {hC hR : Nat → Nat → Int32} (h : ∀ i, i < n → E5 (hist i) (hist' i)) (hh : CHist hist n hn hk hW hH hS hL hP hC hR) : CHist hist' n hn hk hW hH hS hL hP hC hR := by
  obtain ⟨x, h1, h2, h3, h4, h5⟩ := hh
  exact ⟨x, h1, h2, h3, h4, fun i hi => ⟨(h i hi).ok (h5 i hi).1, (h i hi).cb (h5 i hi).1 (h5 i hi).2⟩⟩
section MED
variable {d : Nat → Int32} {hist : Nat → Nat → Int32} {n p : Nat} {a1 a2 a3 th : Int32} {ll : Nat → Int32}
theorem copyM_L {q1 : Nat → Int32} {Post : (Nat → Int32) → Prop} {q0 : Nat → Int32} (h : ∀ q, (∀ j, q j = if j < 555 then q1 j else q0 j) → Post q) : ∀ (r i : Nat) (q2 : Nat → Int32), i + r = 555 → (∀ j, q2 j = if j < i then q1 j else q0 j) → wpX7_copy_L2 555 q1 555 Post (r + 1) q2 (nI i)
  | 0, i, q2, hi, hA => by
    unfold wpX7_copy_L2
    have a : (555 : Int32) ≤ nI i := by rw [li555, nI_leI (by omega) (by omega)]; omega
    refine ⟨fun _ => h _ (fun j => by rw [hA j, show i = 555 by omega]), fun z => absurd a z⟩
  | r + 1, i, q2, hi, hA => by
    unfold wpX7_copy_L2
    have a : ¬ (555 : Int32) ≤ nI i := by rw [li555, nI_leI (by omega) (by omega)]; omega
    refine ⟨fun z => absurd z a, fun _ => ⟨vp_in_nI (by omega) (by decide), vp_in_nI (by omega) (by decide), ?_⟩⟩
    rw [nI_clamp (by omega), nI_1]
    refine copyM_L h r (i + 1) _ (by omega) (fun j => ?_)
    by_cases g : j = i
    · subst g; rw [pk_us, if_pos (by omega)]
    · rw [pk_un g, hA j]
      by_cases g2 : j < i
      · rw [if_pos g2, if_pos (by omega)]
      · rw [if_neg g2, if_neg (by omega)]
theorem copyM_s {q1 q2 : Nat → Int32} {Post : (Nat → Int32) → Prop} (h : ∀ q, (∀ j, q j = if j < 555 then q1 j else q2 j) → Post q) : wpX7_copy 555 q1 555 q2 Post :=
  ⟨555 + 1, copyM_L h 555 0 q2 rfl (fun j => by rw [if_neg (Nat.not_lt_zero _)])⟩
theorem remember_L {Post : Int32 → (Nat → Nat → Int32) → Prop} (h : ∀ hist', (∀ i, i < 8 → E5 (if i = 7 then d else hist (i + 1)) (hist' i)) → Post (nI 8) hist') : ∀ (r k : Nat) (H : Nat → Nat → Int32), k + r = 8 → 1 ≤ k → (∀ i, i + 1 < k → E5 (hist (i + 1)) (H i)) → (∀ i, k ≤ i + 1 → H i = hist i) → wpX7_remember_L11 d Post (r + 1) (nI 8) H (nI k)
  | 0, k, H, hk, h1, hA, hB => by
    unfold wpX7_remember_L11 wpX7_remember_b50
    have a : (8 : Int32) ≤ nI k := by rw [li8, nI_leI (by omega) (by omega)]; omega
    refine ⟨fun _ => ?_, fun z => absurd a z⟩
    rw [show nI 8 - 1 = nI 7 from nI_pred 7, nI_clamp (by decide), nI_1]
    refine ⟨vp_in_nI (by decide) (by decide), copyM_s (fun q hq => h _ (fun i hi => ?_))⟩
    by_cases g : i = 7
    · subst g
      intro j hj
      show va_up H 7 q 7 j = _
      rw [show va_up H 7 q 7 = q from if_pos rfl, hq j, if_pos hj, if_pos rfl]
    · rw [if_neg g]
      intro j hj
      rw [show va_up H 7 q i = H i from if_neg g]
      exact hA i (by omega) j hj
  | r + 1, k, H, hk, h1, hA, hB => by
    unfold wpX7_remember_L11
    have a : ¬ (8 : Int32) ≤ nI k := by rw [li8, nI_leI (by omega) (by omega)]; omega
    refine ⟨fun z => absurd z a, fun _ => ?_⟩
    rw [li1, sm_sub h1, nI_clamp (by omega), nI_clamp (by omega), nI_add]
    refine ⟨vp_in_nI (by omega) (by decide), vp_in_nI (by omega) (by decide), by omega, copyM_s (fun q hq => ?_)⟩
    refine remember_L h r (k + 1) _ (by omega) (by omega) (fun i hi => ?_) (fun i hi => ?_)
    · intro j hj
      by_cases g : i = k - 1
      · rw [g, show va_up H (k - 1) q (k - 1) = q from if_pos rfl, hq j, if_pos hj, hB k (by omega), show k - 1 + 1 = k by omega]
      · rw [show va_up H (k - 1) q i = H i from if_neg g]
        exact hA i (by omega) j hj
    · rw [show va_up H (k - 1) q i = H i from if_neg (by omega)]
      exact hB i (by omega)
theorem remember_s {Post : Int32 → (Nat → Nat → Int32) → Prop} (hn : n ≤ 8) (h : ∀ hist', (∀ i, i < pushN n → E5 (pushH hist n d i) (hist' i)) → Post (nI (pushN n)) hist') : wpX7_remember (nI n) d hist Post := by
  unfold wpX7_remember
  unfold pushN pushH at h
  by_cases g : n = 8
  · subst g
    rw [if_pos rfl, if_pos rfl] at h
    refine ⟨fun z => absurd rfl z, fun _ => ⟨7 + 1, ?_⟩⟩
    exact remember_L (hist := hist) h 7 1 hist rfl (Nat.le_refl _) (fun i hi => by omega) (fun i _ => rfl)
  · rw [if_neg g, if_neg g] at h
    refine ⟨fun _ => ?_, fun z => absurd ((nI_eq (b := 8) (by omega) (by decide)).mp z) g⟩
    unfold wpX7_remember_b50
    rw [nI_clamp (by omega), nI_1]
    refine ⟨vp_in_nI (by omega) (by decide), copyM_s (fun q hq => h _ (fun i hi => ?_))⟩
    intro j hj
    by_cases g2 : i = n
    · rw [if_pos g2, g2, show va_up hist n q n = q from if_pos rfl, hq j, if_pos hj]
    · rw [if_neg g2, show va_up hist n q i = hist i from if_neg g2]
theorem put_s {i : Nat} {x : Int32} {Post : Int32 → Int32 → (Nat → Int32) → (Nat → Nat → Int32) → Prop} (hn : n ≤ 8) (hi : i < 555) (h : ∀ hist', (∀ i, i < pushN n → E5 (pushH hist n d i) (hist' i)) → Post (d i) (nI (pushN n)) (upd d i x) hist') : wpX7_put (nI n) d hist (nI i) x Post := by
  unfold wpX7_put
  refine remember_s hn (fun hist' hh => ⟨vp_in_nI hi (by decide), vp_in_nI hi (by decide), ?_⟩)
  rw [nI_clamp (by omega)]
  exact h hist' hh
theorem fixM_s {Post : Int32 → Int32 → Int32 → (Nat → Int32) → (Nat → Nat → Int32) → Prop} (hO : OkB d) (hn : n ≤ 8) (h : ∀ p, p < dP d → a1 = nI p → inF a2 → ∀ hist', (∀ i, i < pushN n → E5 (pushH hist n d i) (hist' i)) → Post (dF d p) 0 (nI (pushN n)) (upd d (11 + 34 * p + 2) a2) hist') (hX1 : ¬ inR a1 (dP d) → Post 0 1 (nI n) d hist) (hX2 : ∀ p, p < dP d → a1 = nI p → ¬ inF a2 → Post 0 2 (nI n) d hist) : wpX7_fix th (nI n) d hist a1 a2 Post := by
  have h16 := hO.p16
  unfold wpX7_fix wpX7_fix_b35 wpX7_fix_b28 wpX7_at
  refine noPar_s hO (fun p hp e => ?_) (fun hn => ?_)
  · subst e
    refine ⟨fun z => absurd rfl z, fun _ => in_s (fun z1 z2 => ?_) (fun z => ?_)⟩
    · have hF := inF_of z1 (Int32.not_lt.mp z2)
      refine ⟨fun _ => ?_, fun z => absurd z (by decide)⟩
      rw [fails_0]
      refine ⟨fun _ => ?_, fun z => absurd rfl z⟩
      dsimp only
      rw [show (11 : Int32) + (34 : Int32) * nI p + 2 = nI (11 + 34 * p + 2) by rw [li11, li34, li2, pk_mul, nI_add, nI_add]]
      exact put_s hn (by omega) (h p hp rfl hF)
    · have hF : ¬ inF a2 := fun q => z.elim (fun z => inF_lo q z) (fun z => absurd (inF_hi q) (Int32.not_le.mpr z))
      refine ⟨fun z => absurd rfl z, fun _ => ?_⟩
      rw [fails_1 (by decide)]
      exact ⟨fun z => absurd z (by decide), fun _ => hX2 p hp rfl hF⟩
  · exact ⟨fun _ => hX1 hn, fun z => absurd z (by decide)⟩
theorem beginM_s {Post : Int32 → Int32 → Int32 → (Nat → Int32) → (Nat → Nat → Int32) → Prop} (b : Bool) (hO : OkB d) (hn : n ≤ 8) (h : ∀ p, p < dP d → a1 = nI p → ∀ hist', (∀ i, i < pushN n → E5 (pushH hist n d i) (hist' i)) → Post (bI (dB d p)) 0 (nI (pushN n)) (upd d (11 + 34 * p + 1) (bI b)) hist') (hX1 : ¬ inR a1 (dP d) → Post 0 1 (nI n) d hist) : wpX7_begin th (nI n) d hist a1 (bI b) Post := by
  have h16 := hO.p16
  unfold wpX7_begin wpX7_begin_b29 wpX7_at
  refine noPar_s hO (fun p hp e => ?_) (fun hn => ?_)
  · subst e
    refine ⟨fun z => absurd rfl z, fun _ => ?_⟩
    have go : wpX7_put (nI n) d hist ((11 : Int32) + (34 : Int32) * nI p + 1) (bI b) (fun r_3 undoDepth_3 data_3 history_3 => (¬ r_3 = (1 : Int32) → Post (0 : Int32) 0 undoDepth_3 data_3 history_3) ∧ (r_3 = (1 : Int32) → Post (1 : Int32) 0 undoDepth_3 data_3 history_3)) := by
      rw [show (11 : Int32) + (34 : Int32) * nI p + 1 = nI (11 + 34 * p + 1) by rw [li11, li34, li1, pk_mul, nI_add, nI_add]]
      refine put_s hn (by omega) (fun hist' hh => ?_)
      have := h p hp rfl hist' hh
      rw [hO.b hp]
      cases hb : dB d p
      · rw [hb] at this
        exact ⟨fun _ => this, fun z => absurd z (by decide)⟩
      · rw [hb] at this
        exact ⟨fun z => absurd rfl z, fun _ => this⟩
    cases b
    · exact ⟨fun _ => go, fun z => absurd rfl z⟩
    · exact ⟨fun z => absurd z (by decide), fun _ => go⟩
  · exact ⟨fun _ => hX1 hn, fun z => absurd z (by decide)⟩
theorem setCostM_s {Post : Int32 → Int32 → Int32 → (Nat → Int32) → (Nat → Nat → Int32) → Prop} (hO : OkB d) (hn : n ≤ 8) (h : ∀ k c, k < 6 → a1 = nI k → c ≤ 999 → a2 = nI c → ∀ hist', (∀ i, i < pushN n → E5 (pushH hist n d i) (hist' i)) → Post (nI (dC d k)) 0 (nI (pushN n)) (upd d (5 + k) (nI c)) hist') (hX : ¬ (inR a1 6 ∧ inR a2 1000) → Post 0 1 (nI n) d hist) : wpX7_setCost th (nI n) d hist a1 a2 Post := by
  unfold wpX7_setCost wpX7_setCost_b26 wpX7_setCost_b31
  have bad : ¬ (inR a1 6 ∧ inR a2 1000) → wpX7_fails 0 1 1 (fun r_2 thrown_2 => (r_2 = 0 → wpX7_put (nI n) d hist ((5 : Int32) + a1) a2 (fun r_3 undoDepth_3 data_3 history_3 => Post r_3 thrown_2 undoDepth_3 data_3 history_3)) ∧ (¬ r_2 = 0 → Post (0 : Int32) thrown_2 (nI n) d hist)) := fun hh => by
    rw [fails_1 (by decide)]
    exact ⟨fun z => absurd z (by decide), fun _ => hX hh⟩
  refine inN_s (n := 6) (by decide) (fun k hk e => ?_) (fun hh => ?_)
  · subst e
    refine ⟨fun z => absurd z (by decide), fun _ => inN_s (n := 1000) (by decide) (fun c hc e => ?_) (fun hh => ?_)⟩
    · subst e
      refine ⟨fun _ => ?_, fun z => absurd z (by decide)⟩
      rw [fails_0]
      refine ⟨fun _ => ?_, fun z => absurd rfl z⟩
      rw [li5, nI_add]
      refine put_s hn (by omega) (fun hist' hh => ?_)
      rw [hO.c hk]
      exact h k c hk rfl (by omega) rfl hist' hh
    · exact ⟨fun z => absurd rfl z, fun _ => bad (fun z => hh z.2)⟩
  · exact ⟨fun _ => bad (fun z => hh z.1), fun z => absurd rfl z⟩
theorem undoM_s {Post : Int32 → Int32 → Int32 → (Nat → Int32) → Prop} (hn : n ≤ 8) (h0 : n = 0 → Post (-1) 0 (nI n) d) (h : ∀ m, n = m + 1 → ∀ d', E5 (hist m) d' → Post (nI m) 0 (nI m) d') : wpX7_undo th (nI n) d hist Post := by
  unfold wpX7_undo
  rcases Nat.eq_zero_or_pos n with e | e
  · subst e
    exact ⟨fun z => absurd rfl z, fun _ => h0 rfl⟩
  · obtain ⟨m, rfl⟩ : ∃ m, n = m + 1 := ⟨n - 1, by omega⟩
    refine ⟨fun _ => ?_, fun z => absurd z (nI_ne0 (by omega) (by omega))⟩
    rw [nI_pred m, nI_clamp (by omega)]
    exact ⟨vp_in_nI (by omega) (by decide), copyM_s (fun q hq => h m rfl q (fun j hj => by rw [hq j, if_pos hj]))⟩
/-! remove -/
theorem removeM_L {Post : Int32 → Int32 → Int32 → (Nat → Int32) → (Nat → Nat → Int32) → Prop} {H : Nat → Nat → Int32} {D x : Int32} {P : Nat} (hP : P < 16) (hp : p ≤ P) {d1 : Nat → Int32} (h4 : d1 4 = nI P)
    (h : ∀ q, (∀ j, q j = if 11 + 34 * p ≤ j ∧ j < 11 + 34 * P then d1 (j + 34) else d1 j) → Post x 0 D q H) :
    ∀ (r i : Nat) (q : Nat → Int32), 11 + 34 * p ≤ i → i + r = 11 + 34 * P → (∀ j, q j = if 11 + 34 * p ≤ j ∧ j < i then d1 (j + 34) else d1 j) → wpX7_remove_L41 a1 Post (r + 1) 0 D q H x (nI i)
  | 0, i, q, h0, hi, hA => by
    unfold wpX7_remove_L41 wpX7_at
    have e4 : q (4 : Int32).toNatClampNeg = nI P := by
      show q 4 = _
      rw [hA 4, if_neg (by omega), h4]
    rw [e4]
    dsimp only
    rw [show (11 : Int32) + (34 : Int32) * nI P = nI (11 + 34 * P) by rw [li11, li34, pk_mul, nI_add]]
    have a : nI (11 + 34 * P) ≤ nI i := by rw [nI_leI (by omega) (by omega)]; omega
    exact ⟨vp_in_nI (n := 4) (by decide) (by decide), fun _ => h q (fun j => by rw [hA j, show i = 11 + 34 * P by omega]), fun z => absurd a z⟩
  | r + 1, i, q, h0, hi, hA => by
    unfold wpX7_remove_L41 wpX7_at
    have e4 : q (4 : Int32).toNatClampNeg = nI P := by
      show q 4 = _
      rw [hA 4, if_neg (by omega), h4]
    rw [e4]
    dsimp only
    rw [show (11 : Int32) + (34 : Int32) * nI P = nI (11 + 34 * P) by rw [li11, li34, pk_mul, nI_add], li34, nI_add, nI_clamp (by omega), nI_clamp (by omega), nI_1]
    have a : ¬ nI (11 + 34 * P) ≤ nI i := by rw [nI_leI (by omega) (by omega)]; omega
    refine ⟨vp_in_nI (n := 4) (by decide) (by decide), fun z => absurd z a, fun _ => ⟨vp_in_nI (by omega) (by decide), vp_in_nI (by omega) (by decide), ?_⟩⟩
    refine removeM_L hP hp h4 h r (i + 1) _ (by omega) (by omega) (fun j => ?_)
    by_cases g : j = i
    · subst g
      rw [pk_us, if_pos (by omega), hA (j + 34), if_neg (by omega)]
    · rw [pk_un g, hA j]
      by_cases g2 : 11 + 34 * p ≤ j ∧ j < i
      · rw [if_pos g2, if_pos (by omega)]
      · rw [if_neg g2, if_neg (by omega)]
theorem removeM_s {Post : Int32 → Int32 → Int32 → (Nat → Int32) → (Nat → Nat → Int32) → Prop} (hO : OkB d) (hn : n ≤ 8) (h : ∀ p, p < dP d → a1 = nI p → ∀ hist', (∀ i, i < pushN n → E5 (pushH hist n d i) (hist' i)) → Post (nI (dN d p)) 0 (nI (pushN n)) (rmD d p) hist') (hX1 : ¬ inR a1 (dP d) → Post 0 1 (nI n) d hist) : wpX7_remove th (nI n) d hist a1 Post := by
  have h16 := hO.p16
  unfold wpX7_remove
  refine noPar_s hO (fun p hp e => ?_) (fun hn => ?_)
  · subst e
    refine ⟨fun _ => remember_s hn (fun hist' hh => ?_), fun z => absurd rfl z⟩
    rw [li3, of_e (by omega) (by decide), hO.n hp]
    unfold wpX7_at
    rw [show d (4 : Int32).toNatClampNeg = nI (dP d) from hO.p, show (4 : Int32).toNatClampNeg = 4 from rfl, li1, sm_sub (by omega), li11, li34, pk_mul, nI_add]
    refine ⟨vp_in_nI (n := 4) (by decide) (by decide), vp_in_nI (n := 4) (by decide) (by decide), (34 * (dP d - 1) - 34 * p) + 1, ?_⟩
    refine removeM_L (P := dP d - 1) (p := p) (d1 := upd d 4 (nI (dP d - 1))) (by omega) (by omega) pk_us (fun q hq => ?_) _ (11 + 34 * p) _ (Nat.le_refl _) (by omega) (fun j => by rw [if_neg (by omega)])
    have e : q = rmD d p := funext fun j => by
      rw [hq j]
      unfold rmD
      by_cases g4 : j = 4
      · rw [if_neg (by omega), if_pos g4, g4, pk_us]
      · rw [if_neg g4]
        by_cases g1 : 11 + 34 * p ≤ j ∧ j < 11 + 34 * (dP d - 1)
        · rw [if_pos g1, if_neg (by omega), if_pos (by omega), pk_un (by omega)]
        · rw [if_neg g1, pk_un g4]
          by_cases g2 : j < 11 + 34 * p
          · rw [if_pos g2]
          · rw [if_neg g2, if_neg (by omega)]
    rw [e]
    exact h p hp rfl hist' hh
  · exact ⟨fun z => absurd z (by decide), fun _ => hX1 hn⟩
end MED
