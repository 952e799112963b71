/-! THE CLASS'S CHANGES -/
theorem note_s {d : Nat → Int32} {rows counts taken : Nat → Int32} {f1 f2 : Int32} {Post : Int32 → Int32 → (Nat → Int32) → (Nat → Int32) → Prop} (hO : OkB d) (hR : CRows d rows) (h : ∀ counts taken, CL d counts taken → Post 0 0 counts taken) : wpX6_noteChange f1 f2 (nI (dW d)) (nI (dS d)) (nI (dP d)) rows counts taken Post := by
  unfold wpX6_noteChange
  exact breakAll_s hO hR (fun c t hL => h c t hL)
theorem inF_of {x : Int32} (h1 : ¬ x < -1) (h2 : x ≤ 2) : x = -1 ∨ x = nI 0 ∨ x = nI 1 ∨ x = nI 2 := by
  rw [Int32.lt_iff_toInt_lt, show (-1 : Int32).toInt = -1 from by decide] at h1
  rw [Int32.le_iff_toInt_le, show (2 : Int32).toInt = 2 from by decide] at h2
  have e : ∀ y : Int32, x.toInt = y.toInt → x = y := fun y hy => Int32.toInt_inj.mp hy
  have : x.toInt = -1 ∨ x.toInt = 0 ∨ x.toInt = 1 ∨ x.toInt = 2 := by omega
  rcases this with z | z | z | z
  · exact Or.inl (e _ z)
  · exact Or.inr (Or.inl (e _ z))
  · exact Or.inr (Or.inr (Or.inl (e _ z)))
  · exact Or.inr (Or.inr (Or.inr (e _ z)))
def inF (x : Int32) : Prop := x = -1 ∨ x = nI 0 ∨ x = nI 1 ∨ x = nI 2
theorem inF_lo {x : Int32} (h : inF x) : ¬ x < -1 := by rcases h with rfl | rfl | rfl | rfl <;> decide
theorem inF_hi {x : Int32} (h : inF x) : x ≤ 2 := by rcases h with rfl | rfl | rfl | rfl <;> decide
section CED
variable {d : Nat → Int32} {hist : Nat → Nat → Int32} {n : Nat} {hn hk : Int32} {hW hH hS hL hP : Nat → Int32} {hC hR : Nat → Nat → Int32} {costs rows counts taken : Nat → Int32} {iPF iBF a1 a2 a3 : Int32}
theorem CRows_fix (hO : OkB d) (hR : CRows d rows) {p : Nat} (hp : p < dP d) (x : Int32) (hP : dP (upd d (11 + 34 * p + 2) x) = dP d) : CRows (upd d (11 + 34 * p + 2) x) (upd rows (p * 34 + 3) x) := by
  intro q hq
  rw [hP] at hq
  by_cases g : q = p
  · subst g
    obtain ⟨h1, h2, h3, h4, h5⟩ := hR q hq
    have h30 := hO.n30 hq
    have u : ∀ k, k ≠ 2 → upd d (11 + 34 * q + 2) x (11 + 34 * q + k) = d (11 + 34 * q + k) := fun k hk => pk_un (by omega)
    have eN : dN (upd d (11 + 34 * q + 2) x) q = dN d q := congrArg nz (u 3 (by decide))
    refine ⟨?_, ?_, ?_, ?_, fun k hk => ?_⟩
    · rw [pk_un (by omega), h1, eN]
    · rw [pk_un (by omega), h2, show dHd (upd d (11 + 34 * q + 2) x) q = dHd d q from congrArg (fun x => x == nI 1) (u 0 (by decide))]
    · rw [pk_un (by omega), h3, show dB (upd d (11 + 34 * q + 2) x) q = dB d q from congrArg (fun x => x == nI 1) (u 1 (by decide))]
    · rw [pk_us]; exact pk_us.symm
    · rw [eN] at hk
      rw [pk_un (by omega), h5 k hk, show dV (upd d (11 + 34 * q + 2) x) q k = dV d q k from congrArg nz (u (4 + k) (by omega))]
  · exact CPar_eq (hO.n30 hq) (hR q hq) (upd_par (by omega) (by omega) g) (fun k hk => pk_un (by omega))
theorem fix_s {Post : Int32 → Int32 → Int32 → (Nat → Int32) → Int32 → Int32 → (Nat → Int32) → (Nat → Int32) → (Nat → Int32) → (Nat → Int32) → (Nat → Int32) → (Nat → Nat → Int32) → (Nat → Nat → Int32) → (Nat → Int32) → (Nat → Int32) → Prop} {PostX : String → Int32 → Int32 → (Nat → Int32) → Int32 → Int32 → (Nat → Int32) → (Nat → Int32) → (Nat → Int32) → (Nat → Int32) → (Nat → Int32) → (Nat → Nat → Int32) → (Nat → Nat → Int32) → (Nat → Int32) → (Nat → Int32) → Prop} (hO : OkB d) (hC0 : CCosts d costs) (hR0 : CRows d rows) (hh : CHist hist n hn hk hW hH hS hL hP hC hR)
    (h : ∀ p, p < dP d → a1 = nI p → inF a2 → ∀ rows hn hk hW hH hS hL hP hC hR counts taken, CRows (upd d (11 + 34 * p + 2) a2) rows → CHist (pushH hist n d) (pushN n) hn hk hW hH hS hL hP hC hR → CL (upd d (11 + 34 * p + 2) a2) counts taken → Post (dF d p) 0 0 rows hn hk hW hH hS hL hP hC hR counts taken)
    (hX1 : ¬ inR a1 (dP d) → PostX "java/lang/IndexOutOfBoundsException" iPF iBF rows hn hk hW hH hS hL hP hC hR counts taken) (hX2 : ∀ p, p < dP d → a1 = nI p → ¬ inF a2 → PostX "java/lang/IllegalArgumentException" iPF iBF rows hn hk hW hH hS hL hP hC hR counts taken) :
    wpX6_fix iPF iBF (nI (dW d)) (nI (dH d)) (nI (dS d)) (nI (dL d)) (nI (dP d)) costs rows hn hk hW hH hS hL hP hC hR counts taken a1 a2 Post PostX := by
  have h16 := hO.p16
  unfold wpX6_fix wpX6_fix_b15
  refine reqPar_s (by omega) ?_ hX1
  rintro ⟨p, hp, rfl⟩
  refine ⟨fun z => hX2 p hp rfl (fun q => inF_lo q z), fun z1 => ⟨fun z2 => ?_, fun z => hX2 p hp rfl (fun q => z (inF_hi q))⟩⟩
  have hF := inF_of z1 z2
  refine keep_s hh hO ⟨rfl, rfl, rfl, rfl, rfl, hC0, hR0⟩ (fun hn hk hW hH hS hL hP hC hR hh' => ?_)
  rw [fixedTo_e hO hR0 hp, fixTo_e (by omega)]
  obtain ⟨hO', hP'⟩ := fix_ok hO hp hF
  have hR' := CRows_fix hO hR0 hp a2 hP'
  have hH' : HeadEq d (upd d (11 + 34 * p + 2) a2) := upd_head (by omega)
  have := note_s (Post := fun i j c t => Post (dF d p) i j (upd rows (p * 34 + 3) a2) hn hk hW hH hS hL hP hC hR c t) (f1 := iPF) (f2 := iBF) (counts := counts) (taken := taken) hO' hR' (fun c t hL => h p hp rfl hF _ _ _ _ _ _ _ _ _ _ c t hR' hh' hL)
  rw [hH'.w, hH'.s, hP'] at this
  exact this
theorem CRows_begin (hO : OkB d) (hR : CRows d rows) {p : Nat} (hp : p < dP d) (b : Bool) (hP : dP (upd d (11 + 34 * p + 1) (bI b)) = dP d) : CRows (upd d (11 + 34 * p + 1) (bI b)) (upd rows (p * 34 + 2) (bI b)) := by
  intro q hq
  rw [hP] at hq
  by_cases g : q = p
  · subst g
    obtain ⟨h1, h2, h3, h4, h5⟩ := hR q hq
    have h30 := hO.n30 hq
    have u : ∀ k, k ≠ 1 → upd d (11 + 34 * q + 1) (bI b) (11 + 34 * q + k) = d (11 + 34 * q + k) := fun k hk => pk_un (by omega)
    have eN : dN (upd d (11 + 34 * q + 1) (bI b)) q = dN d q := congrArg nz (u 3 (by decide))
    have e1 : upd d (11 + 34 * q + 1) (bI b) (11 + 34 * q + 1) = bI b := pk_us
    have eB : dB (upd d (11 + 34 * q + 1) (bI b)) q = b := by
      show (upd d (11 + 34 * q + 1) (bI b) (11 + 34 * q + 1) == nI 1) = b
      rw [e1]; cases b <;> decide
    refine ⟨?_, ?_, ?_, ?_, fun k hk => ?_⟩
    · rw [pk_un (by omega), h1, eN]
    · rw [pk_un (by omega), h2, show dHd (upd d (11 + 34 * q + 1) (bI b)) q = dHd d q from congrArg (fun x => x == nI 1) (u 0 (by decide))]
    · rw [pk_us, eB]
    · rw [pk_un (by omega), h4]
      exact (u 2 (by decide)).symm
    · rw [eN] at hk
      rw [pk_un (by omega), h5 k hk, show dV (upd d (11 + 34 * q + 1) (bI b)) q k = dV d q k from congrArg nz (u (4 + k) (by omega))]
  · exact CPar_eq (hO.n30 hq) (hR q hq) (upd_par (by omega) (by omega) g) (fun k hk => pk_un (by omega))
theorem begin_s {Post : Int32 → Int32 → Int32 → (Nat → Int32) → Int32 → Int32 → (Nat → Int32) → (Nat → Int32) → (Nat → Int32) → (Nat → Int32) → (Nat → Int32) → (Nat → Nat → Int32) → (Nat → Nat → Int32) → (Nat → Int32) → (Nat → Int32) → Prop} {PostX : String → Int32 → Int32 → (Nat → Int32) → Int32 → Int32 → (Nat → Int32) → (Nat → Int32) → (Nat → Int32) → (Nat → Int32) → (Nat → Int32) → (Nat → Nat → Int32) → (Nat → Nat → Int32) → (Nat → Int32) → (Nat → Int32) → Prop} (b : Bool) (hO : OkB d) (hC0 : CCosts d costs) (hR0 : CRows d rows) (hh : CHist hist n hn hk hW hH hS hL hP hC hR)
    (h : ∀ p, p < dP d → a1 = nI p → ∀ rows hn hk hW hH hS hL hP hC hR counts taken, CRows (upd d (11 + 34 * p + 1) (bI b)) rows → CHist (pushH hist n d) (pushN n) hn hk hW hH hS hL hP hC hR → CL (upd d (11 + 34 * p + 1) (bI b)) counts taken → Post (bI (dB d p)) 0 0 rows hn hk hW hH hS hL hP hC hR counts taken)
    (hX1 : ¬ inR a1 (dP d) → PostX "java/lang/IndexOutOfBoundsException" iPF iBF rows hn hk hW hH hS hL hP hC hR counts taken) :
    wpX6_begin iPF iBF (nI (dW d)) (nI (dH d)) (nI (dS d)) (nI (dL d)) (nI (dP d)) costs rows hn hk hW hH hS hL hP hC hR counts taken a1 (bI b) Post PostX := by
  have h16 := hO.p16
  unfold wpX6_begin
  refine reqPar_s (by omega) ?_ hX1
  rintro ⟨p, hp, rfl⟩
  refine keep_s hh hO ⟨rfl, rfl, rfl, rfl, rfl, hC0, hR0⟩ (fun hn hk hW hH hS hL hP hC hR hh' => ?_)
  rw [beginsPage_e hO hR0 hp, setBegins_e (by omega)]
  obtain ⟨hO', hP'⟩ := begin_ok hO hp b
  have hR' := CRows_begin hO hR0 hp b hP'
  have hH' : HeadEq d (upd d (11 + 34 * p + 1) (bI b)) := upd_head (by omega)
  have := note_s (Post := fun iPF_5 iBF_5 lines_counts_5 lines_taken_5 => (bI (dB d p) = 0 ∨ bI (dB d p) = 1) ∧ Post (bI (dB d p)) iPF_5 iBF_5 (upd rows (p * 34 + 2) (bI b)) hn hk hW hH hS hL hP hC hR lines_counts_5 lines_taken_5) (f1 := iPF) (f2 := iBF) (counts := counts) (taken := taken) hO' hR' (fun c t hL => ⟨bI_01 _, h p hp rfl _ _ _ _ _ _ _ _ _ _ c t hR' hh' hL⟩)
  rw [hH'.w, hH'.s, hP'] at this
  exact this
theorem CRows_cost (hO : OkB d) (hC : CCosts d costs) (hR : CRows d rows) {k c : Nat} (hk : k < 6) (hc : c ≤ 999) (hP : dP (upd d (5 + k) (nI c)) = dP d) : CRows (upd d (5 + k) (nI c)) rows ∧ CCosts (upd d (5 + k) (nI c)) (upd costs k (nI c)) := by
  refine ⟨fun q hq => ?_, fun i hi => ?_⟩
  · rw [hP] at hq
    exact CPar_eq (hO.n30 hq) (hR q hq) (fun j hj => pk_un (by omega)) (fun k hk => rfl)
  · by_cases g : i = k
    · subst g
      have e : upd d (5 + i) (nI c) (5 + i) = nI c := pk_us
      rw [pk_us, show dC (upd d (5 + i) (nI c)) i = c by show nz (upd d (5 + i) (nI c) (5 + i)) = c; rw [e, nz_nI (by omega)]]
    · rw [pk_un g, hC i hi, show dC (upd d (5 + k) (nI c)) i = dC d i from congrArg nz (pk_un (by omega))]
theorem setCost_s {Post : Int32 → Int32 → Int32 → (Nat → Int32) → Int32 → Int32 → (Nat → Int32) → (Nat → Int32) → (Nat → Int32) → (Nat → Int32) → (Nat → Int32) → (Nat → Nat → Int32) → (Nat → Nat → Int32) → (Nat → Int32) → (Nat → Int32) → Prop} {PostX : String → Int32 → Int32 → (Nat → Int32) → Int32 → Int32 → (Nat → Int32) → (Nat → Int32) → (Nat → Int32) → (Nat → Int32) → (Nat → Int32) → (Nat → Nat → Int32) → (Nat → Nat → Int32) → (Nat → Int32) → (Nat → Int32) → Prop} (hO : OkB d) (hC0 : CCosts d costs) (hR0 : CRows d rows) (hh : CHist hist n hn hk hW hH hS hL hP hC hR)
    (h : ∀ k c, k < 6 → a1 = nI k → c ≤ 999 → a2 = nI c → ∀ costs hn hk hW hH hS hL hP hC hR counts taken, CCosts (upd d (5 + k) (nI c)) costs → CRows (upd d (5 + k) (nI c)) rows → CHist (pushH hist n d) (pushN n) hn hk hW hH hS hL hP hC hR → CL (upd d (5 + k) (nI c)) counts taken → Post (nI (dC d k)) 0 0 costs hn hk hW hH hS hL hP hC hR counts taken)
    (hX : ¬ (inR a1 6 ∧ inR a2 1000) → PostX "java/lang/IllegalArgumentException" iPF iBF costs hn hk hW hH hS hL hP hC hR counts taken) :
    wpX6_setCost iPF iBF (nI (dW d)) (nI (dH d)) (nI (dS d)) (nI (dL d)) (nI (dP d)) costs rows hn hk hW hH hS hL hP hC hR counts taken a1 a2 Post PostX := by
  have h16 := hO.p16
  unfold wpX6_setCost wpX6_setCost_b21
  rcases inR_cases a1 6 (by decide) with ⟨k, hk, rfl⟩ | ⟨hh1, hn1⟩
  · refine ⟨fun z => absurd z (nI_pos (by omega)), fun _ => ⟨fun z => absurd z (nI_ge hk (by decide)), fun _ => ?_⟩⟩
    rcases inR_cases a2 1000 (by decide) with ⟨c, hc, rfl⟩ | ⟨hh1, hn1⟩
    · refine ⟨fun z => absurd z (nI_pos (by omega)), fun _ => ⟨fun _ => ?_, fun z => absurd (nI_le (b := 999) (by omega) (by decide)) z⟩⟩
      refine keep_s hh hO ⟨rfl, rfl, rfl, rfl, rfl, hC0, hR0⟩ (fun hn hk2 hW hH hS hL hP hC hR hh' => ?_)
      rw [costOf_e hC0 hk, setCostOf_e hk]
      obtain ⟨hO', hP'⟩ := cost_ok hO hk (show c ≤ 999 by omega)
      obtain ⟨hR', hC'⟩ := CRows_cost hO hC0 hR0 hk (show c ≤ 999 by omega) hP'
      have e0 : dW (upd d (5 + k) (nI c)) = dW d := congrArg nz (pk_un (by omega))
      have e1 : dS (upd d (5 + k) (nI c)) = dS d := congrArg nz (pk_un (by omega))
      have := note_s (Post := fun i j c' t => Post (nI (dC d k)) i j (upd costs k (nI c)) hn hk2 hW hH hS hL hP hC hR c' t) (f1 := iPF) (f2 := iBF) (counts := counts) (taken := taken) hO' hR' (fun c' t hL => h k c hk rfl (by omega) rfl _ _ _ _ _ _ _ _ _ _ c' t hC' hR' hh' hL)
      rw [e0, e1, hP'] at this
      exact this
    · have x := hX (fun z => hn1 z.2)
      rcases hh1 with hh1 | ⟨i, hi, hi2, rfl⟩
      · exact ⟨fun _ => x, fun z => absurd hh1 z⟩
      · refine ⟨fun _ => x, fun _ => ⟨fun z => absurd z ?_, fun _ => x⟩⟩
        rw [li999, nI_leI hi2 (by decide)]; omega
  · have x := hX (fun z => hn1 z.1)
    rcases hh1 with hh1 | ⟨i, hi, hi2, rfl⟩
    · exact ⟨fun _ => x, fun z => absurd hh1 z⟩
    · exact ⟨fun _ => x, fun _ => ⟨fun _ => x, fun z => absurd (nI_le (a := 6) hi hi2) z⟩⟩
theorem CRows_rm (hO : OkB d) (hR : CRows d rows) {p : Nat} (hp : p < dP d) {r : Nat → Int32} (hr : ∀ j, r j = if p * 34 ≤ j ∧ j < (dP d - 1) * 34 then rows (j + 34) else rows j) : CRows (rmD d p) r := by
  obtain ⟨h1, h2, h3, h4, h5⟩ := rm_ok hO hp
  intro q hq
  rw [h2] at hq
  rcases Nat.lt_or_ge q p with g | g
  · exact CPar_eq (hO.n30 (by omega)) (hR q (by omega)) (h4 q g) (fun k hk => by rw [hr, if_neg (by omega)])
  · exact CPar_eq (hO.n30 (by omega)) (hR (q + 1) (by omega)) (h5 q g hq) (fun k hk => by rw [hr, if_pos (by omega)]; exact congrArg rows (by omega))
theorem remove_s {Post : Int32 → Int32 → Int32 → Int32 → (Nat → Int32) → Int32 → Int32 → (Nat → Int32) → (Nat → Int32) → (Nat → Int32) → (Nat → Int32) → (Nat → Int32) → (Nat → Nat → Int32) → (Nat → Nat → Int32) → (Nat → Int32) → (Nat → Int32) → Prop} {PostX : String → Int32 → Int32 → Int32 → (Nat → Int32) → Int32 → Int32 → (Nat → Int32) → (Nat → Int32) → (Nat → Int32) → (Nat → Int32) → (Nat → Int32) → (Nat → Nat → Int32) → (Nat → Nat → Int32) → (Nat → Int32) → (Nat → Int32) → Prop} (hO : OkB d) (hC0 : CCosts d costs) (hR0 : CRows d rows) (hh : CHist hist n hn hk hW hH hS hL hP hC hR)
    (h : ∀ p, p < dP d → a1 = nI p → ∀ rows hn hk hW hH hS hL hP hC hR counts taken, CRows (rmD d p) rows → CHist (pushH hist n d) (pushN n) hn hk hW hH hS hL hP hC hR → CL (rmD d p) counts taken → Post (nI (dN d p)) 0 0 (nI (dP d - 1)) rows hn hk hW hH hS hL hP hC hR counts taken)
    (hX1 : ¬ inR a1 (dP d) → PostX "java/lang/IndexOutOfBoundsException" iPF iBF (nI (dP d)) rows hn hk hW hH hS hL hP hC hR counts taken) :
    wpX6_remove iPF iBF (nI (dW d)) (nI (dH d)) (nI (dS d)) (nI (dL d)) (nI (dP d)) costs rows hn hk hW hH hS hL hP hC hR counts taken a1 Post PostX := by
  have h16 := hO.p16
  unfold wpX6_remove
  refine reqPar_s (by omega) ?_ hX1
  rintro ⟨p, hp, rfl⟩
  refine keep_s hh hO ⟨rfl, rfl, rfl, rfl, rfl, hC0, hR0⟩ (fun hn hk hW hH hS hL hP hC hR hh' => ?_)
  rw [wordsOf_e hO hR0 hp]
  refine close_s h16 hp (fun r hr => ?_)
  obtain ⟨hO', hP', hH', -, -⟩ := rm_ok hO hp
  have hR' := CRows_rm hO hR0 hp hr
  have := note_s (Post := fun i j c t => Post (nI (dN d p)) i j (nI (dP d - 1)) r hn hk hW hH hS hL hP hC hR c t) (f1 := iPF) (f2 := iBF) (counts := counts) (taken := taken) hO' hR' (fun c t hL => h p hp rfl _ _ _ _ _ _ _ _ _ _ c t hR' hh' hL)
  rw [hH'.w, hH'.s, hP'] at this
  exact this
end CED
