/-! THE REFERENCE: lines -/
section MLS
variable {d : Nat → Int32} {p k n s c line : Nat}
/-- lines behind the first, after k words -/
theorem layLines_L {Post : Int32 → (Nat → Int32) → Prop} (hO : OkB d) (hp : p < dP d) (hs : s < 3)
    (h : ∀ ll, (∀ j, j < cnt d p s → ll j = nI (tln d p s j)) → Post (nI (cnt d p s)) ll) :
    ∀ (r k : Nat) (ll : Nat → Int32), k + r = dN d p → (∀ j, j < (brk d p s k).1 → ll j = nI (tkn d p s k j)) →
      wpX7_layLines_L8 d (nI p) (nI s) Post (r + 1) ll (nI ((brk d p s k).1 - 1)) (nI (brk d p s k).2) (nI k)
  | 0, k, ll, hk, hA => by
    have h16 := hO.p16
    have h30 := hO.n30 hp
    have hc := cnt_pos hO hp s
    unfold wpX7_layLines_L8
    rw [li3, of_e (by omega) (by decide), hO.n hp]
    have e : k = dN d p := by omega
    subst e
    have a : nI (dN d p) ≤ nI (dN d p) := nI_le (Nat.le_refl _) (by omega)
    refine ⟨fun _ => ?_, fun z => absurd a z⟩
    have hb : (brk d p s (dN d p)).1 = cnt d p s := rfl
    rw [hb] at hA ⊢
    rw [nI_1, Nat.sub_add_cancel hc]
    exact h ll hA
  | r + 1, k, ll, hk, hA => by
    have h16 := hO.p16
    have h30 := hO.n30 hp
    have h1 : k < dN d p := by omega
    have h3 := brk_le d p s k
    have h4 := brk_used hO hp s k (by omega)
    have h5 := hO.v60 hp h1
    have h6 : hol d s ≤ 69 := by
      have := hO.w60
      have := hO.s9
      unfold hol
      split <;> (try split) <;> omega
    unfold wpX7_layLines_L8
    rw [li3, of_e (by omega) (by decide), hO.n hp]
    have a : ¬ nI (dN d p) ≤ nI k := nI_ge h1 (by omega)
    refine ⟨fun z => absurd z a, fun _ => ?_⟩
    rw [li4, nI_add, of_e (by omega) (by omega), hO.v hp h1, holds_m hO hs]
    have key : ∀ (cc u : Nat), brk d p s (k + 1) = (cc, u) → 1 ≤ cc → (cc = (brk d p s k).1 ∨ cc = (brk d p s k).1 + 1) → wpX7_layLines_b87 d (nI p) (nI s) Post (wpX7_layLines_L8 d (nI p) (nI s) Post (r + 1)) ll (nI (cc - 1)) (nI k) (nI u) := by
      intro cc u hb hc1 hc2
      have hc3 : cc ≤ k + 1 := by have := brk_le d p s (k + 1); rw [hb] at this; exact this
      unfold wpX7_layLines_b87
      rw [nI_clamp (by omega), nI_1]
      refine ⟨vp_in_nI (by omega) (by decide), ?_⟩
      have e1 : (brk d p s (k + 1)).1 = cc := by rw [hb]
      have e2 : (brk d p s (k + 1)).2 = u := by rw [hb]
      have ih := layLines_L hO hp hs h r (k + 1) (upd ll (cc - 1) (nI u)) (by omega) (fun j hj => by
        rw [e1] at hj
        show upd ll (cc - 1) (nI u) j = nI (if j + 1 = (brk d p s (k + 1)).1 then (brk d p s (k + 1)).2 else tkn d p s k j)
        rw [e1, e2]
        by_cases hj2 : j + 1 = cc
        · rw [if_pos hj2, show cc - 1 = j by omega, pk_us]
        · rw [if_neg hj2, pk_un (by omega)]
          exact hA j (by omega))
      rw [e1, e2] at ih
      exact ih
    by_cases hk0 : k = 0
    · subst hk0
      have hb : brk d p s (0 + 1) = ((brk d p s 0).1 + 1, dV d p 0) := by
        show (if _ then _ else _) = _
        rw [if_neg (by show ¬ (0 < 0 ∧ _); omega)]
      have kk := key _ _ hb (by omega) (Or.inr rfl)
      have z0 : (brk d p s 0).1 = 0 := rfl
      have z1 : (brk d p s 0).2 = 0 := rfl
      rw [z0] at kk ⊢
      refine ⟨fun _ => ?_, fun z => absurd (by decide) z⟩
      unfold wpX7_layLines_b54 wpX7_layLines_b55 wpX7_layLines_b70
      exact ⟨fun _ => ⟨fun _ => kk, fun z => absurd rfl z⟩, fun z => absurd (by decide) z⟩
    · have hpos : 0 < (brk d p s k).1 := brk_pos d p s k (by omega)
      have nk : ¬ nI k ≤ 0 := nI_nle (by omega) (by omega)
      refine ⟨fun z => absurd z nk, fun _ => ?_⟩
      rw [nI_1, nI_add, nI_ltI (by omega) (by omega)]
      unfold wpX7_layLines_b54 wpX7_layLines_b55 wpX7_layLines_b70
      by_cases hc : 0 < (brk d p s k).1 ∧ (brk d p s k).2 + 1 + dV d p k ≤ hol d s
      · have hb : brk d p s (k + 1) = ((brk d p s k).1, (brk d p s k).2 + 1 + dV d p k) := by
          show (if _ then _ else _) = _
          rw [if_pos hc]
        have kk := key _ _ hb (by omega) (Or.inl rfl)
        refine ⟨fun z => absurd z (by omega), fun _ => ⟨fun z => absurd z nk, fun _ => ⟨fun _ => ⟨fun z => absurd z (by decide), fun _ => ?_⟩, fun z => absurd z (by decide)⟩⟩⟩
        rw [nI_1, nI_add]
        exact kk
      · have hb : brk d p s (k + 1) = ((brk d p s k).1 + 1, dV d p k) := by
          show (if _ then _ else _) = _
          rw [if_neg hc]
        have kk := key _ _ hb (by omega) (Or.inr rfl)
        refine ⟨fun _ => ⟨fun z => absurd z nk, fun _ => ⟨fun z => absurd rfl z, fun _ => ⟨fun _ => ?_, fun z => absurd rfl z⟩⟩⟩, fun z => absurd (by omega) z⟩
        rw [nI_1, show (brk d p s k).1 - 1 + 1 = (brk d p s k).1 + 1 - 1 by omega]
        exact kk
theorem layLines_s {ll : Nat → Int32} {Post : Int32 → (Nat → Int32) → Prop} (hO : OkB d) (hp : p < dP d) (hs : s < 3)
    (h : ∀ ll, (∀ j, j < cnt d p s → ll j = nI (tln d p s j)) → Post (nI (cnt d p s)) ll) : wpX7_layLines d ll (nI p) (nI s) Post :=
  ⟨_, layLines_L hO hp hs h (dN d p) 0 ll (by omega) (fun j hj => absurd hj (Nat.not_lt_zero _))⟩
theorem layAll_in {Post : (Nat → Int32) → (Nat → Nat → Int32) → Prop} {K : (Nat → Int32) → (Nat → Nat → Int32) → Int32 → Prop} (hO : OkB d) (hp : p < dP d)
    (hK : ∀ ll lines, (∀ q, q < p + 1 → ∀ s, s < 3 → lines q s = nI (cnt d q s)) → K ll lines (nI (p + 1))) :
    ∀ (r s : Nat) (ll : Nat → Int32) (lines : Nat → Nat → Int32), s + r = 3 → (∀ q, q < p → ∀ s, s < 3 → lines q s = nI (cnt d q s)) → (∀ s', s' < s → lines p s' = nI (cnt d p s')) →
      wpX7_layAllLines_L14 d Post K (r + 1) ll lines (nI p) (nI s)
  | 0, s, ll, lines, hs, h1, h2 => by
    unfold wpX7_layAllLines_L14
    have a : (3 : Int32) ≤ nI s := by rw [li3, nI_leI (by omega) (by omega)]; omega
    refine ⟨fun _ => ?_, fun z => absurd a z⟩
    rw [nI_1]
    refine hK _ _ (fun q hq s' hs' => ?_)
    rcases Nat.lt_or_ge q p with g | g
    · exact h1 q g s' hs'
    · rw [show q = p by omega]; exact h2 s' (by omega)
  | r + 1, s, ll, lines, hs, h1, h2 => by
    have h16 := hO.p16
    unfold wpX7_layAllLines_L14
    have a : ¬ (3 : Int32) ≤ nI s := by rw [li3, nI_leI (by omega) (by omega)]; omega
    refine ⟨fun z => absurd z a, fun _ => ⟨vp_in_nI (by omega) (by decide), ?_⟩⟩
    refine layLines_s hO hp (by omega) (fun ll' _ => ⟨vp_in_nI (by omega) (by decide), ?_⟩)
    rw [nI_clamp (by omega), nI_clamp (by omega), nI_1]
    refine layAll_in hO hp hK r (s + 1) ll' _ (by omega) (fun q hq s' hs' => ?_) (fun s' hs' => ?_)
    · unfold updR
      rw [if_neg (by omega)]
      exact h1 q hq s' hs'
    · unfold updR
      by_cases g : s' = s
      · rw [if_pos ⟨rfl, g⟩, g]
      · rw [if_neg (by omega)]
        exact h2 s' (by omega)
theorem layAll_L {Post : (Nat → Int32) → (Nat → Nat → Int32) → Prop} (hO : OkB d) (h : ∀ ll lines, MLn d lines → Post ll lines) :
    ∀ (r p : Nat) (ll : Nat → Int32) (lines : Nat → Nat → Int32), p + r = dP d → (∀ q, q < p → ∀ s, s < 3 → lines q s = nI (cnt d q s)) → wpX7_layAllLines_L2 d Post (r + 1) ll lines (nI p)
  | 0, p, ll, lines, hp, h1 => by
    have h16 := hO.p16
    unfold wpX7_layAllLines_L2
    rw [show d (4 : Int32).toNatClampNeg = nI (dP d) from hO.p]
    have a : nI (dP d) ≤ nI p := by rw [nI_leI (by omega) (by omega)]; omega
    exact ⟨vp_in_nI (n := 4) (by decide) (by decide), fun _ => h _ _ (fun q hq => h1 q (by omega)), fun z => absurd a z⟩
  | r + 1, p, ll, lines, hp, h1 => by
    have h16 := hO.p16
    unfold wpX7_layAllLines_L2
    rw [show d (4 : Int32).toNatClampNeg = nI (dP d) from hO.p]
    have a : ¬ nI (dP d) ≤ nI p := by rw [nI_leI (by omega) (by omega)]; omega
    refine ⟨vp_in_nI (n := 4) (by decide) (by decide), fun z => absurd z a, fun _ => ⟨4, ?_⟩⟩
    exact layAll_in hO (by omega) (fun ll lines g => layAll_L hO h r (p + 1) ll lines (by omega) g) 3 0 ll lines rfl h1 (fun s' hs' => absurd hs' (Nat.not_lt_zero _))
theorem layAll_s {ll : Nat → Int32} {lines : Nat → Nat → Int32} {Post : (Nat → Int32) → (Nat → Nat → Int32) → Prop} (hO : OkB d) (h : ∀ ll lines, MLn d lines → Post ll lines) : wpX7_layAllLines d ll lines Post :=
  ⟨_, layAll_L hO h (dP d) 0 ll lines (by omega) (fun q hq => absurd hq (Nat.not_lt_zero _))⟩
end MLS
