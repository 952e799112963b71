/-! THE CLASS'S READER AND ITS LOAD -/
section CLD
variable {tx : Nat → Nat} {len : Nat} {text : Nat → Int32}
theorem read_s (hT : TX tx len text) {L0 a0 e0 o0 hc0 hl0 w0 h0 s0 l0 P0 : Int32} {cs0 rows0 : Nat → Int32} {Post : RT}
    (hF : ∀ c o, pText tx len = .inl (c, o) → ∀ L a hc hl w h s l P cs rows, Post L a c (nI o) hc hl w h s l P cs rows)
    (hS : ∀ b dd, pText tx len = .inr (b, dd) → ∀ hc hl cs rows, CCosts dd cs → CRows dd rows → Post (nI len) (nI b) 0 (-1) hc hl (nI (dW dd)) (nI (dH dd)) (nI (dS dd)) (nI (dL dd)) (nI (dP dd)) cs rows) :
    wpX5_read L0 a0 e0 o0 hc0 hl0 w0 h0 s0 l0 P0 cs0 rows0 700 text (nI len) Post := by
  unfold wpX5_read wpX0_reset
  refine copyRow_s (by decide) (by decide) (fun cs hcs => ?_)
  unfold pText at hF hS
  refine readHead_s hT (fun c o hp a w h s ha => ?_) (fun a w h s ha w1 w2 h1 h2 s1 hp => ?_)
  · rw [hp] at hF
    have hbad := bad_ne ((pHead_f (tx := tx) (len := len)).1 c o hp).1
    exact ⟨1, read_E hbad (hF c o rfl _ _ _ _ _ _ _ _ _ _ _)⟩
  · rw [hp] at hF hS
    dsimp only at hF hS
    obtain ⟨b1, b2, b3, b4, b5, b6, b7⟩ := bkN_ok w1 w2 h1 h2 s1
    have hx := read_L hT (Post := Post) (res := pLoop tx len (len + 1) a false false (bkN w h s)) hF hS (len + 1) 0 a false false (bkN w h s) cs rows0 rfl (Nat.zero_le _) ha b1 (fun k hk => by rw [hcs k, if_pos (by omega)]; exact (b7 k hk).symm) (fun q hq => by rw [b6] at hq; exact absurd hq (Nat.not_lt_zero _)) rfl
    rw [b2, b3, b4, b5, b6] at hx
    exact ⟨_, hx⟩
theorem TX.le {n : Nat} (hT : TX tx len text) (h : n ≤ len) : TX tx n text := ⟨by have := hT.1; omega, fun i hi => hT.2 i (by omega)⟩
variable {d : Nat → Int32} {hist : Nat → Nat → Int32} {n : Nat} {hn hk : Int32} {hW hH hS hL hP : Nat → Int32} {hC hR : Nat → Nat → Int32} {costs rows counts taken : Nat → Int32} {iPF iBF a1 leo L0 a0 e0 o0 hc0 hl0 w0 h0 s0 l0 P0 : Int32} {cs0 rows0 : Nat → Int32}
theorem load_s {Post : Int32 → Int32 → Int32 → Int32 → Int32 → Int32 → Int32 → Int32 → Int32 → Int32 → (Nat → Int32) → (Nat → Int32) → Int32 → Int32 → (Nat → Int32) → (Nat → Int32) → (Nat → Int32) → (Nat → Int32) → (Nat → Int32) → (Nat → Nat → Int32) → (Nat → Nat → Int32) → (Nat → Int32) → (Nat → Int32) → Int32 → Int32 → Int32 → Int32 → Int32 → Int32 → Int32 → Int32 → Int32 → Int32 → Int32 → (Nat → Int32) → (Nat → Int32) → Prop} {PostX : String → Int32 → Int32 → Int32 → Int32 → Int32 → Int32 → Int32 → Int32 → Int32 → (Nat → Int32) → (Nat → Int32) → Int32 → Int32 → (Nat → Int32) → (Nat → Int32) → (Nat → Int32) → (Nat → Int32) → (Nat → Int32) → (Nat → Nat → Int32) → (Nat → Nat → Int32) → (Nat → Int32) → (Nat → Int32) → Int32 → Int32 → Int32 → Int32 → Int32 → Int32 → Int32 → Int32 → Int32 → Int32 → Int32 → (Nat → Int32) → (Nat → Int32) → Prop} (hT : TX tx len text) (hO : OkB d) (hC0 : CCosts d costs) (hR0 : CRows d rows) (hh : CHist hist n hn hk hW hH hS hL hP hC hR)
    (hX : ¬ inR a1 (len + 1) → PostX "java/lang/IllegalArgumentException" (nI len) leo iPF iBF (nI (dW d)) (nI (dH d)) (nI (dS d)) (nI (dL d)) (nI (dP d)) costs rows hn hk hW hH hS hL hP hC hR counts taken L0 a0 e0 o0 hc0 hl0 w0 h0 s0 l0 P0 cs0 rows0)
    (hF : ∀ m, m ≤ len → a1 = nI m → ∀ c o, pText tx m = .inl (c, o) → ∀ L a hc hl w h s l P cs rws, Post c 0 (nI o) iPF iBF (nI (dW d)) (nI (dH d)) (nI (dS d)) (nI (dL d)) (nI (dP d)) costs rows hn hk hW hH hS hL hP hC hR counts taken L a c (nI o) hc hl w h s l P cs rws)
    (hG : ∀ m, m ≤ len → a1 = nI m → ∀ b dd, pText tx m = .inr (b, dd) → ∀ costs rows hn hk hW hH hS hL hP hC hR counts taken, CCosts dd costs → CRows dd rows → CHist (pushH hist n d) (pushN n) hn hk hW hH hS hL hP hC hR → CL dd counts taken → ∀ L a hc hl w h s l P cs rws, Post (nI (dP dd)) 0 (-1) 0 0 (nI (dW dd)) (nI (dH dd)) (nI (dS dd)) (nI (dL dd)) (nI (dP dd)) costs rows hn hk hW hH hS hL hP hC hR counts taken L a 0 (-1) hc hl w h s l P cs rws) :
    wpX6_load (nI len) leo iPF iBF (nI (dW d)) (nI (dH d)) (nI (dS d)) (nI (dL d)) (nI (dP d)) costs rows text hn hk hW hH hS hL hP hC hR counts taken L0 a0 e0 o0 hc0 hl0 w0 h0 s0 l0 P0 cs0 rows0 a1 Post PostX := by
  have h7 := hT.1
  unfold wpX6_load wpX6_load_b12
  rcases inR_cases a1 (len + 1) (by omega) with ⟨m, hm, rfl⟩ | ⟨hx, hn⟩
  · refine ⟨fun z => absurd z (nI_pos (by omega)), fun _ => ⟨fun _ => ?_, fun z => absurd (nI_le (by omega) (by omega)) z⟩⟩
    refine read_s (hT.le (show m ≤ len by omega)) (fun c o hp L a hc hl w h s l P cs rws => ?_) (fun b dd hp hc hl cs rws hC hR => ?_)
    · have hbad := bad_ne ((pText_f (tx := tx) (len := m)).1 c o hp).1
      exact ⟨fun z => absurd z hbad, fun _ => hF m (by omega) rfl c o hp _ _ _ _ _ _ _ _ _ _ _⟩
    · have hO' := (pText_f (tx := tx) (len := m)).2 b dd hp
      refine ⟨fun _ => ?_, fun z => absurd rfl z⟩
      refine keep_s hh hO ⟨rfl, rfl, rfl, rfl, rfl, hC0, hR0⟩ (fun hn hk hW hH hS' hL hP hC' hR' hh' => ?_)
      refine copyFrom_s hO' ⟨rfl, rfl, rfl, rfl, rfl, hC, hR⟩ (fun c' r' hB' => ?_)
      obtain ⟨-, -, -, -, -, hC2, hR2⟩ := hB'
      exact note_s hO' hR2 (fun ct tk hL' => hG m (by omega) rfl b dd hp _ _ _ _ _ _ _ _ _ _ _ ct tk hC2 hR2 hh' hL' _ _ _ _ _ _ _ _ _ _ _)
  · have x := hX hn
    rcases hx with hx | ⟨i, hi, hi2, rfl⟩
    · exact ⟨fun _ => x, fun z => absurd hx z⟩
    · exact ⟨fun z => absurd z (nI_pos hi2), fun _ => ⟨fun z => absurd z (nI_ge hi hi2), fun _ => x⟩⟩
end CLD
