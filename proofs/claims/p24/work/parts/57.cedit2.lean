/-! THE CLASS'S CHANGES: insert, retouch, undo -/
section CEE
variable {d : Nat → Int32} {hist : Nat → Nat → Int32} {n : Nat} {hn hk : Int32} {hW hH hS hL hP : Nat → Int32} {hC hR : Nat → Nat → Int32} {costs rows counts taken : Nat → Int32} {iPF iBF a1 a2 a3 : Int32}
theorem CRows_ins (hO : OkB d) (hR : CRows d rows) {at_ words len : Nat} (ha : at_ ≤ dP d) (hP : dP d < 16) (hw : 1 ≤ words) (hw2 : words ≤ 30) (hl : len ≤ 60) {r : Nat → Int32}
    (r0 : ∀ j, j < at_ * 34 → r j = rows j) (r1 : r (at_ * 34) = nI words) (r2 : r (at_ * 34 + 1) = nI 0) (r3 : r (at_ * 34 + 2) = nI 0) (r4 : r (at_ * 34 + 3) = -1) (r5 : ∀ k, k < words → r (at_ * 34 + 4 + k) = nI len) (r6 : ∀ j, at_ * 34 + 34 ≤ j → j < (dP d + 1) * 34 → r j = rows (j - 34)) : CRows (insD d at_ words len) r := by
  obtain ⟨-, h2, -, h4, h5, h6, h7, h8, h9, h10⟩ := ins_ok hO ha hP hw hw2 hl
  intro q hq
  rw [h2] at hq
  rcases Nat.lt_trichotomy q at_ with g | g | g
  · exact CPar_eq (hO.n30 (by omega)) (hR q (by omega)) (h4 q g) (fun k hk => r0 _ (by omega))
  · subst g
    refine ⟨by rw [r1, h6], by rw [r2, h8]; rfl, by rw [r3, h9]; rfl, by rw [r4, h10], fun k hk => ?_⟩
    rw [h6] at hk
    rw [r5 k hk, h7 k hk]
  · refine CPar_eq (hO.n30 (show q - 1 < dP d by omega)) (hR (q - 1) (by omega)) (h5 q g (by omega)) (fun k hk => ?_)
    rw [r6 _ (by omega) (by omega)]
    exact congrArg rows (by omega)
theorem insert_L {Post : Int32 → Int32 → Int32 → Int32 → (Nat → Int32) → Int32 → Int32 → (Nat → Int32) → (Nat → Int32) → (Nat → Int32) → (Nat → Int32) → (Nat → Int32) → (Nat → Nat → Int32) → (Nat → Nat → Int32) → (Nat → Int32) → (Nat → Int32) → Prop} {PostX : String → Int32 → Int32 → Int32 → (Nat → Int32) → Int32 → Int32 → (Nat → Int32) → (Nat → Int32) → (Nat → Int32) → (Nat → Int32) → (Nat → Int32) → (Nat → Nat → Int32) → (Nat → Nat → Int32) → (Nat → Int32) → (Nat → Int32) → Prop} {W h_ S L P : Int32} {at_ words len : Nat} (ha : at_ < 16) (hw2 : words ≤ 30) (rows0 : Nat → Int32)
    (h : ∀ r, r (at_ * 34) = nI words → (∀ k, k < words → r (at_ * 34 + 4 + k) = nI len) → (∀ j, (j < at_ * 34 ∨ (at_ * 34 < j ∧ j < at_ * 34 + 4) ∨ at_ * 34 + 34 ≤ j) → r j = rows0 j) → wpX6_noteChange iPF iBF W S P r counts taken (fun i j c t => Post P i j P r hn hk hW hH hS hL hP hC hR c t)) :
    ∀ (m k : Nat) (r : Nat → Int32), k + m = words → r (at_ * 34) = nI k → (∀ i, i < k → r (at_ * 34 + 4 + i) = nI len) → (∀ j, (j < at_ * 34 ∨ (at_ * 34 < j ∧ j < at_ * 34 + 4) ∨ at_ * 34 + 34 ≤ j) → r j = rows0 j) →
      wpX6_insert_L98 W h_ S L costs (nI at_) (nI words) (nI len) Post PostX (m + 1) iPF iBF P r hn hk hW hH hS hL hP hC hR counts taken (nI k)
  | 0, k, r, hk, r1, r2, r3 => by
    unfold wpX6_insert_L98
    have a : nI words ≤ nI k := by rw [nI_leI (by omega) (by omega)]; omega
    have e : k = words := by omega
    subst e
    exact ⟨fun _ => h r r1 r2 r3, fun z => absurd a z⟩
  | m + 1, k, r, hk, r1, r2, r3 => by
    unfold wpX6_insert_L98
    have a : ¬ nI words ≤ nI k := by rw [nI_leI (by omega) (by omega)]; omega
    refine ⟨fun z => absurd z a, fun _ => ?_⟩
    rw [addWord_e ha r1 (by omega), nI_1]
    refine insert_L ha hw2 rows0 h m (k + 1) _ (by omega) pk_us (fun i hi => ?_) (fun j hj => ?_)
    · rw [pk_un (by omega)]
      by_cases g : i = k
      · subst g; exact pk_us
      · rw [pk_un (by omega)]; exact r2 i (by omega)
    · rw [pk_un (by omega), pk_un (by omega)]
      exact r3 j hj
/-- insert's parameters are in range -/
def okIns (d : Nat → Int32) (a1 a2 a3 : Int32) : Prop := inR a1 (dP d + 1) ∧ (∃ w, 1 ≤ w ∧ w ≤ 30 ∧ a2 = nI w) ∧ ∃ l, 1 ≤ l ∧ l ≤ dW d - dS d ∧ a3 = nI l
theorem insert_s {Post : Int32 → Int32 → Int32 → Int32 → (Nat → Int32) → Int32 → Int32 → (Nat → Int32) → (Nat → Int32) → (Nat → Int32) → (Nat → Int32) → (Nat → Int32) → (Nat → Nat → Int32) → (Nat → Nat → Int32) → (Nat → Int32) → (Nat → Int32) → Prop} {PostX : String → Int32 → Int32 → Int32 → (Nat → Int32) → Int32 → Int32 → (Nat → Int32) → (Nat → Int32) → (Nat → Int32) → (Nat → Int32) → (Nat → Int32) → (Nat → Nat → Int32) → (Nat → Nat → Int32) → (Nat → Int32) → (Nat → Int32) → Prop} (hO : OkB d) (hC0 : CCosts d costs) (hR0 : CRows d rows) (hh : CHist hist n hn hk hW hH hS hL hP hC hR)
    (h : ∀ at_ w l, at_ ≤ dP d → a1 = nI at_ → 1 ≤ w → w ≤ 30 → a2 = nI w → 1 ≤ l → l ≤ dW d - dS d → a3 = nI l → dP d < 16 → ∀ rows hn hk hW hH hS hL hP hC hR counts taken, CRows (insD d at_ w l) rows → CHist (pushH hist n d) (pushN n) hn hk hW hH hS hL hP hC hR → CL (insD d at_ w l) counts taken → Post (nI (dP d + 1)) 0 0 (nI (dP d + 1)) rows hn hk hW hH hS hL hP hC hR counts taken)
    (hX1 : ¬ okIns d a1 a2 a3 → PostX "java/lang/IllegalArgumentException" iPF iBF (nI (dP d)) rows hn hk hW hH hS hL hP hC hR counts taken) (hX2 : okIns d a1 a2 a3 → 16 ≤ dP d → PostX "java/lang/IllegalStateException" iPF iBF (nI (dP d)) rows hn hk hW hH hS hL hP hC hR counts taken) :
    wpX6_insert iPF iBF (nI (dW d)) (nI (dH d)) (nI (dS d)) (nI (dL d)) (nI (dP d)) costs rows hn hk hW hH hS hL hP hC hR counts taken a1 a2 a3 Post PostX := by
  have h16 := hO.p16
  have hw60 := hO.w60
  have hw10 := hO.w10
  have hs9 := hO.s9
  unfold wpX6_insert wpX6_insert_b42
  rw [longestWord_e hO]
  rcases i_cases a1 with z1 | ⟨at_, q1, rfl⟩
  · have x := hX1 (fun z => by obtain ⟨⟨i, hi, rfl⟩, -⟩ := z; exact absurd z1 (nI_pos (by omega)))
    exact ⟨fun _ => x, fun z => absurd z1 z⟩
  refine ⟨fun z => absurd z (nI_pos q1), fun _ => ?_⟩
  rcases Nat.lt_or_ge (dP d) at_ with z1 | z1
  · have x := hX1 (fun z => by obtain ⟨⟨i, hi, e⟩, -⟩ := z; have := (nI_eq q1 (by omega)).mp e; omega)
    exact ⟨fun _ => x, fun z => absurd (nI_lt z1 q1) z⟩
  refine ⟨fun z => absurd z (nI_nlt z1 (by omega)), fun _ => ?_⟩
  rcases i_cases a2 with z2 | ⟨w, q2, rfl⟩
  · have x := hX1 (fun z => by obtain ⟨-, ⟨i, hi, hi2, rfl⟩, -⟩ := z; exact absurd z2 (nI_pos (by omega)))
    exact ⟨fun _ => x, fun z => absurd (of_eq_true (neg_lt' z2 (a := 1) (by decide))) z⟩
  rcases Nat.lt_or_ge w 1 with z2 | z2
  · have x := hX1 (fun z => by obtain ⟨-, ⟨i, hi, hi2, e⟩, -⟩ := z; have := (nI_eq q2 (by omega)).mp e; omega)
    exact ⟨fun _ => x, fun z => absurd (nI_lt (b := 1) z2 (by decide)) z⟩
  refine ⟨fun z => absurd z (nI_nlt (b := 1) z2 q2), fun _ => ?_⟩
  rcases Nat.lt_or_ge 30 w with z3 | z3
  · have x := hX1 (fun z => by obtain ⟨-, ⟨i, hi, hi2, e⟩, -⟩ := z; have := (nI_eq q2 (by omega)).mp e; omega)
    exact ⟨fun _ => x, fun z => absurd (nI_lt (a := 30) z3 q2) z⟩
  refine ⟨fun z => absurd z (nI_nlt (a := 30) z3 (by decide)), fun _ => ?_⟩
  rcases i_cases a3 with z4 | ⟨l, q3, rfl⟩
  · have x := hX1 (fun z => by obtain ⟨-, -, ⟨i, hi, hi2, rfl⟩⟩ := z; exact absurd z4 (nI_pos (by omega)))
    exact ⟨fun _ => x, fun z => absurd (of_eq_true (neg_lt' z4 (a := 1) (by decide))) z⟩
  rcases Nat.lt_or_ge l 1 with z4 | z4
  · have x := hX1 (fun z => by obtain ⟨-, -, ⟨i, hi, hi2, e⟩⟩ := z; have := (nI_eq q3 (by omega)).mp e; omega)
    exact ⟨fun _ => x, fun z => absurd (nI_lt (b := 1) z4 (by decide)) z⟩
  refine ⟨fun z => absurd z (nI_nlt (b := 1) z4 q3), fun _ => ?_⟩
  rcases Nat.lt_or_ge (dW d - dS d) l with z5 | z5
  · have x := hX1 (fun z => by obtain ⟨-, -, ⟨i, hi, hi2, e⟩⟩ := z; have := (nI_eq q3 (by omega)).mp e; omega)
    exact ⟨fun z => absurd z (nI_ge z5 q3), fun _ => x⟩
  refine ⟨fun _ => ?_, fun z => absurd (nI_le z5 (by omega)) z⟩
  have ok : okIns d (nI at_) (nI w) (nI l) := ⟨⟨at_, by omega, rfl⟩, ⟨w, z2, z3, rfl⟩, ⟨l, z4, z5, rfl⟩⟩
  rcases Nat.lt_or_ge (dP d) 16 with z6 | z6
  · refine ⟨fun _ => ?_, fun z => absurd (nI_lt (b := 16) z6 (by decide)) z⟩
    refine keep_s hh hO ⟨rfl, rfl, rfl, rfl, rfl, hC0, hR0⟩ (fun hn hk hW hH hS hL hP hC hR hh' => ?_)
    refine open_s (hd := false) (pg := false) z6 z1 (fun r g0 g1 g2 g3 g4 g5 => ⟨w + 1, ?_⟩)
    refine insert_L (by omega) z3 r (fun r' k1 k2 k3 => ?_) w 0 r (by omega) g1 (fun i hi => absurd hi (Nat.not_lt_zero _)) (fun j _ => rfl)
    obtain ⟨hO', hP', hH', -⟩ := ins_ok hO z1 z6 z2 z3 (show l ≤ 60 by omega)
    have hR' := CRows_ins (r := r') hO hR0 z1 z6 z2 z3 (show l ≤ 60 by omega) (fun j hj => (k3 j (by omega)).trans (g0 j hj)) k1 ((k3 _ (by omega)).trans g2) ((k3 _ (by omega)).trans g3) ((k3 _ (by omega)).trans g4) k2 (fun j h1 h2 => (k3 j (by omega)).trans (g5 j h1 h2))
    have := note_s (Post := fun i j c t => Post (nI (dP d + 1)) i j (nI (dP d + 1)) r' hn hk hW hH hS hL hP hC hR c t) (f1 := iPF) (f2 := iBF) (counts := counts) (taken := taken) hO' hR' (fun c t hL => h at_ w l z1 rfl z2 z3 rfl z4 z5 rfl z6 _ _ _ _ _ _ _ _ _ _ c t hR' hh' hL)
    rw [hH'.w, hH'.s, hP'] at this
    exact this
  · exact ⟨fun z => absurd z (nI_nlt (b := 16) z6 (by omega)), fun _ => hX2 ok z6⟩
theorem CRows_ret (hO : OkB d) (hR : CRows d rows) {p k len : Nat} (hp : p < dP d) (hk : k ≤ dN d p) (hl : len ≤ 60) (h0 : len = 0 → k < dN d p ∧ dN d p ≠ 1) (h1 : len ≠ 0 → k < 30) {r : Nat → Int32}
    (r1 : ∀ j, (j < p * 34 ∨ (p * 34 < j ∧ j < p * 34 + 4) ∨ p * 34 + 34 ≤ j) → r j = rows j) (r2 : r (p * 34) = nI (if len = 0 then dN d p - 1 else if k = dN d p then dN d p + 1 else dN d p)) (r3 : ∀ i, i < (if len = 0 then dN d p - 1 else if k = dN d p then dN d p + 1 else dN d p) → r (p * 34 + 4 + i) = nI (if len = 0 then (if k ≤ i then dV d p (i + 1) else dV d p i) else if i = k then len else dV d p i)) : CRows (retD d p k len) r := by
  obtain ⟨-, e1, -, e3, e4, e5, e6, e7, e8⟩ := ret_ok hO hp hk hl h0 h1
  intro q hq
  rw [e1] at hq
  by_cases g : q = p
  · subst g
    obtain ⟨h1, h2, h3, h4, h5⟩ := hR q hq
    refine ⟨by rw [r2, e7], by rw [r1 _ (by omega), h2, e4], by rw [r1 _ (by omega), h3, e5], by rw [r1 _ (by omega), h4, e6], fun i hi => ?_⟩
    rw [e8 i hi]
    rw [e7] at hi
    exact r3 i hi
  · exact CPar_eq (hO.n30 hq) (hR q hq) (e3 q g) (fun k hk => r1 _ (by omega))
/-- retouch's parameters are in range -/
def okRet (d : Nat → Int32) (p : Nat) (a2 a3 : Int32) : Prop := ∃ k l, k ≤ dN d p ∧ a2 = nI k ∧ l ≤ dW d - dS d ∧ a3 = nI l ∧ ¬ (l = 0 ∧ k = dN d p)
def badRet (d : Nat → Int32) (p k l : Nat) : Prop := (l = 0 ∧ dN d p = 1) ∨ (k = dN d p ∧ 30 ≤ dN d p)
theorem retouch_s {Post : Int32 → Int32 → Int32 → (Nat → Int32) → Int32 → Int32 → (Nat → Int32) → (Nat → Int32) → (Nat → Int32) → (Nat → Int32) → (Nat → Int32) → (Nat → Nat → Int32) → (Nat → Nat → Int32) → (Nat → Int32) → (Nat → Int32) → Prop} {PostX : String → Int32 → Int32 → (Nat → Int32) → Int32 → Int32 → (Nat → Int32) → (Nat → Int32) → (Nat → Int32) → (Nat → Int32) → (Nat → Int32) → (Nat → Nat → Int32) → (Nat → Nat → Int32) → (Nat → Int32) → (Nat → Int32) → Prop} (hO : OkB d) (hC0 : CCosts d costs) (hR0 : CRows d rows) (hh : CHist hist n hn hk hW hH hS hL hP hC hR)
    (h : ∀ p k l, p < dP d → a1 = nI p → k ≤ dN d p → a2 = nI k → l ≤ dW d - dS d → a3 = nI l → ¬ (l = 0 ∧ k = dN d p) → ¬ badRet d p k l → ∀ rows hn hk hW hH hS hL hP hC hR counts taken, CRows (retD d p k l) rows → CHist (pushH hist n d) (pushN n) hn hk hW hH hS hL hP hC hR → CL (retD d p k l) counts taken → Post (nI (cnt (retD d p k l) p 0)) 0 0 rows hn hk hW hH hS hL hP hC hR counts taken)
    (hX1 : ¬ inR a1 (dP d) → PostX "java/lang/IndexOutOfBoundsException" iPF iBF rows hn hk hW hH hS hL hP hC hR counts taken) (hX2 : ∀ p, p < dP d → a1 = nI p → ¬ okRet d p a2 a3 → PostX "java/lang/IllegalArgumentException" iPF iBF rows hn hk hW hH hS hL hP hC hR counts taken)
    (hX3 : ∀ p k l, p < dP d → a1 = nI p → k ≤ dN d p → a2 = nI k → l ≤ dW d - dS d → a3 = nI l → ¬ (l = 0 ∧ k = dN d p) → badRet d p k l → PostX "java/lang/IllegalStateException" iPF iBF rows hn hk hW hH hS hL hP hC hR counts taken) :
    wpX6_retouch iPF iBF (nI (dW d)) (nI (dH d)) (nI (dS d)) (nI (dL d)) (nI (dP d)) costs rows hn hk hW hH hS hL hP hC hR counts taken a1 a2 a3 Post PostX := by
  have h16 := hO.p16
  have hw60 := hO.w60
  have hw10 := hO.w10
  have hs9 := hO.s9
  unfold wpX6_retouch wpX6_retouch_b50
  refine reqPar_s (by omega) ?_ hX1
  rintro ⟨p, hp, rfl⟩
  have n30 := hO.n30 hp
  have n1 := hO.n1 hp
  rw [wordsOf_e hO hR0 hp, longestWord_e hO]
  rcases i_cases a2 with z2 | ⟨k, q2, rfl⟩
  · have x := hX2 p hp rfl (fun z => by obtain ⟨k, l, h1, rfl, -⟩ := z; exact absurd z2 (nI_pos (by omega)))
    exact ⟨fun _ => x, fun z => absurd z2 z⟩
  refine ⟨fun z => absurd z (nI_pos q2), fun _ => ?_⟩
  rcases Nat.lt_or_ge (dN d p) k with z3 | z3
  · have x := hX2 p hp rfl (fun z => by obtain ⟨k', l, h1, e, -⟩ := z; have := (nI_eq q2 (by omega)).mp e; omega)
    exact ⟨fun _ => x, fun z => absurd (nI_lt z3 q2) z⟩
  refine ⟨fun z => absurd z (nI_nlt z3 (by omega)), fun _ => ?_⟩
  rcases i_cases a3 with z4 | ⟨l, q3, rfl⟩
  · have x := hX2 p hp rfl (fun z => by obtain ⟨k, l, -, -, h1, rfl, -⟩ := z; exact absurd z4 (nI_pos (by omega)))
    exact ⟨fun _ => x, fun z => absurd z4 z⟩
  refine ⟨fun z => absurd z (nI_pos q3), fun _ => ?_⟩
  rcases Nat.lt_or_ge (dW d - dS d) l with z5 | z5
  · have x := hX2 p hp rfl (fun z => by obtain ⟨k', l', -, -, h1, e, -⟩ := z; have := (nI_eq q3 (by omega)).mp e; omega)
    exact ⟨fun _ => x, fun z => absurd (nI_lt z5 q3) z⟩
  refine ⟨fun z => absurd z (nI_nlt z5 (by omega)), fun _ => ?_⟩
  have ek : (nI k = nI (dN d p)) ↔ k = dN d p := nI_eq q2 (by omega)
  have el : (nI l = (0 : Int32)) ↔ l = 0 := nI_eq (b := 0) q3 (by decide)
  have hout : ∀ {i : Nat} {x : Int32} {i2 : Nat} {x2 : Int32}, True := trivial
  -- the change
  have chg : ¬ (l = 0 ∧ k = dN d p) → ¬ badRet d p k l → wpX6_retouch_b93 (nI (dW d)) (nI (dH d)) (nI (dS d)) (nI (dL d)) (nI (dP d)) costs (nI p) (nI k) (nI l) Post PostX iPF iBF rows hn hk hW hH hS hL hP hC hR counts taken (nI (dN d p)) := fun nb nbad => by
    unfold badRet at nbad
    have c0 : l = 0 → k < dN d p ∧ dN d p ≠ 1 := fun e => by omega
    have c1 : l ≠ 0 → k < 30 := fun e => by omega
    unfold wpX6_retouch_b93
    refine keep_s hh hO ⟨rfl, rfl, rfl, rfl, rfl, hC0, hR0⟩ (fun hn hk hW hH hS hL hP hC hR hh' => ?_)
    obtain ⟨hO', hP', hH', -⟩ := ret_ok hO hp z3 (show l ≤ 60 by omega) c0 c1
    have hR1 := hR0 p hp
    have fin : ∀ r, CRows (retD d p k l) r → wpX6_retouch_b148 (nI (dW d)) (nI (dH d)) (nI (dS d)) (nI (dL d)) (nI (dP d)) costs (nI p) (nI k) (nI l) Post PostX iPF iBF r hn hk hW hH hS hL hP hC hR counts taken := fun r hR' => by
      unfold wpX6_retouch_b148
      have := note_s (Post := fun i j c t => wpX2_countOf c (nI p) (0 : Int32) (fun r_7 => Post r_7 i j r hn hk hW hH hS hL hP hC hR c t)) (f1 := iPF) (f2 := iBF) (counts := counts) (taken := taken) hO' hR' (fun c t hL => by
        rw [li0, countOf_e hO' hL (by rw [hP']; exact hp) (by decide)]
        exact h p k l hp rfl z3 rfl z5 rfl nb (fun z => nbad z) _ _ _ _ _ _ _ _ _ _ c t hR' hh' hL)
      rw [hH'.w, hH'.s, hP'] at this
      exact this
    refine ⟨fun z => ?_, fun z => ?_⟩
    · have hkn : k ≠ dN d p := fun e => z (ek.mpr e)
      refine ⟨fun y => ?_, fun y => ?_⟩
      · have hl0 : l ≠ 0 := fun e => y (el.mpr e)
        rw [setWord_e (by omega) (by omega)]
        refine fin _ (CRows_ret hO hR0 hp z3 (by omega) c0 c1 (fun j hj => pk_un (by omega)) ?_ (fun i hi => ?_))
        · rw [pk_un (by omega), hR1.1, if_neg hl0, if_neg hkn]
        · rw [if_neg hl0, if_neg hkn] at hi
          rw [if_neg hl0]
          by_cases g : i = k
          · subst g; rw [pk_us, if_pos rfl]
          · rw [pk_un (by omega), if_neg g]; exact hR1.2.2.2.2 i hi
      · have hl0 : l = 0 := el.mp y
        have := c0 hl0
        refine takeOut_s (by omega) hR1.1 n1 n30 this.1 (fun r g1 g2 => ?_)
        refine fin r (CRows_ret hO hR0 hp z3 (by omega) c0 c1 (fun j hj => by rw [g2 j (by omega), if_neg (by omega)]) ?_ (fun i hi => ?_))
        · rw [g1, if_pos hl0]
        · rw [if_pos hl0] at hi
          rw [if_pos hl0, g2 _ (by omega)]
          by_cases g : k ≤ i
          · rw [if_pos (by omega), if_pos g]; exact hR1.2.2.2.2 (i + 1) (by omega)
          · rw [if_neg (by omega), if_neg g]; exact hR1.2.2.2.2 i (by omega)
    · have hkn : k = dN d p := ek.mp z
      have hl0 : l ≠ 0 := fun e => nb ⟨e, hkn⟩
      rw [addWord_e (by omega) hR1.1 (by omega)]
      refine fin _ (CRows_ret hO hR0 hp z3 (by omega) c0 c1 (fun j hj => by rw [pk_un (by omega), pk_un (by omega)]) ?_ (fun i hi => ?_))
      · rw [pk_us, if_neg hl0, if_pos hkn]
      · rw [if_neg hl0, if_pos hkn] at hi
        rw [if_neg hl0, pk_un (by omega)]
        by_cases g : i = k
        · rw [g, ← hkn, pk_us, if_pos rfl]
        · rw [pk_un (by omega), if_neg g]; exact hR1.2.2.2.2 i (by omega)
  have b60 : ¬ (l = 0 ∧ k = dN d p) → wpX6_retouch_b60 (nI (dW d)) (nI (dH d)) (nI (dS d)) (nI (dL d)) (nI (dP d)) costs (nI p) (nI k) (nI l) Post PostX iPF iBF rows hn hk hW hH hS hL hP hC hR counts taken (nI (dN d p)) := fun nb => by
    unfold wpX6_retouch_b60 wpX6_retouch_b83
    have b70 : (l = 0 → dN d p ≠ 1) → wpX6_retouch_b70 (nI (dW d)) (nI (dH d)) (nI (dS d)) (nI (dL d)) (nI (dP d)) costs (nI p) (nI k) (nI l) Post PostX iPF iBF rows hn hk hW hH hS hL hP hC hR counts taken (nI (dN d p)) := fun h1 => by
      unfold wpX6_retouch_b70 wpX6_retouch_b83
      refine ⟨fun z => chg nb (fun y => y.elim (fun y => h1 y.1 y.2) (fun y => z (ek.mpr y.1))), fun z => ⟨fun y => chg nb (fun x => x.elim (fun x => h1 x.1 x.2) (fun x => ?_)), fun y => ?_⟩⟩
      · exact absurd y (nI_nlt (b := 30) x.2 (by omega))
      · refine hX3 p k l hp rfl z3 rfl z5 rfl nb (Or.inr ⟨ek.mp z, ?_⟩)
        rcases Nat.lt_or_ge (dN d p) 30 with g | g
        · exact absurd (nI_lt (b := 30) g (by decide)) y
        · exact g
    refine ⟨fun z => b70 (fun e => absurd (el.mpr e) z), fun z => ⟨fun y => ?_, fun y => b70 (fun _ e => y (by rw [e]; rfl))⟩⟩
    exact hX3 p k l hp rfl z3 rfl z5 rfl nb (Or.inl ⟨el.mp z, (nI_eq (b := 1) (by omega) (by decide)).mp y⟩)
  refine ⟨fun z => b60 (fun y => z (el.mpr y.1)), fun z => ⟨fun y => b60 (fun x => y (ek.mpr x.2)), fun y => ?_⟩⟩
  refine hX2 p hp rfl (fun x => ?_)
  obtain ⟨k', l', h1, e1, h2, e2, h3⟩ := x
  have := (nI_eq q2 (by omega)).mp e1
  have := (nI_eq q3 (by omega)).mp e2
  subst k' l'
  exact h3 ⟨el.mp z, ek.mp y⟩
theorem undo_s {Post : Int32 → Int32 → Int32 → Int32 → Int32 → Int32 → Int32 → Int32 → (Nat → Int32) → (Nat → Int32) → Int32 → Int32 → (Nat → Int32) → (Nat → Int32) → Prop} (hh : CHist hist n hn hk hW hH hS hL hP hC hR)
    (h0 : n = 0 → Post (-1) iPF iBF (nI (dW d)) (nI (dH d)) (nI (dS d)) (nI (dL d)) (nI (dP d)) costs rows hn hk counts taken)
    (h : ∀ m, n = m + 1 → ∀ hn costs rows counts taken, CB (hist m) (nI (dW (hist m))) (nI (dH (hist m))) (nI (dS (hist m))) (nI (dL (hist m))) (nI (dP (hist m))) costs rows → CHist hist m hn (nI m) hW hH hS hL hP hC hR → CL (hist m) counts taken → Post (nI m) 0 0 (nI (dW (hist m))) (nI (dH (hist m))) (nI (dS (hist m))) (nI (dL (hist m))) (nI (dP (hist m))) costs rows hn (nI m) counts taken) :
    wpX6_undo iPF iBF (nI (dW d)) (nI (dH d)) (nI (dS d)) (nI (dL d)) (nI (dP d)) costs rows hn hk hW hH hS hL hP hC hR counts taken Post := by
  have hh0 := hh
  obtain ⟨x, hx, -, rfl, h8, hi⟩ := hh
  unfold wpX6_undo
  rcases Nat.eq_zero_or_pos n with e | e
  · subst e
    exact ⟨fun z => absurd rfl z, fun _ => h0 rfl⟩
  · obtain ⟨m, rfl⟩ : ∃ m, n = m + 1 := ⟨n - 1, by omega⟩
    have hOm := (hi m (by omega)).1
    refine ⟨fun _ => ?_, fun z => absurd z (nI_ne0 (by omega) (by omega))⟩
    refine bring_s hh0 (fun hn w h_ s l P costs rows hB hh' => ?_)
    have hB0 := hB
    obtain ⟨rfl, rfl, rfl, rfl, rfl, hC', hR'⟩ := hB
    exact note_s hOm hR' (fun c t hL => h m rfl hn costs rows c t hB0 hh' hL)
end CEE
