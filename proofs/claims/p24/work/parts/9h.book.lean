/-! THE LAW'S BOOK: what its cells say of a book's row; its lines, what beginnings cost -/
theorem li14 : (14 : Int32) = nI 14 := rfl
theorem li15 : (15 : Int32) = nI 15 := rfl
theorem li26 : (26 : Int32) = nI 26 := rfl
theorem li99 : (99 : Int32) = nI 99 := rfl
theorem li100 : (100 : Int32) = nI 100 := rfl
def BK (m : Mu) (b : Nat) (d : Nat → Int32) (c ps st : Nat) (g wd : Nat → Nat) (bs : Option Nat × Option Nat × Int32) : Prop :=
  mB m b = some (d 0, d 1, d 2, d 3, some c, some ps, bs.1, bs.2.1, some st, bs.2.2) ∧
  (∃ f, mI m c = some (6, f) ∧ ∀ k, k < 6 → f k = d (5 + k)) ∧
  (∃ q, mQ m ps = some (2, dP d, q) ∧ ∀ p, p < dP d → q p = some (g p)) ∧
  (∀ p, p < dP d → mP m (g p) = some (d (11 + 34 * p), d (11 + 34 * p + 1), d (11 + 34 * p + 2), some (wd p)) ∧ ∃ f, mI m (wd p) = some (dN d p, f) ∧ ∀ k, k < dN d p → f k = d (11 + 34 * p + (4 + k))) ∧
  ∃ f, mI m st = some (99, f)
theorem nI_div {a b : Nat} (ha : a < 2 ^ 31) (hb : b < 2 ^ 31) : nI a / nI b = nI (a / b) := by
  apply Int32.toInt_inj.mp
  rw [Int32.toInt_div]
  have e1 : (nI a).toInt = (a : Int) := by show (Int32.ofNat a).toInt = _; rw [Int32.toInt_ofNat_of_lt ha]
  have e2 : (nI b).toInt = (b : Int) := by show (Int32.ofNat b).toInt = _; rw [Int32.toInt_ofNat_of_lt hb]
  have e3 : (nI (a / b)).toInt = ((a / b : Nat) : Int) := by
    have : a / b ≤ a := Nat.div_le_self _ _
    show (Int32.ofNat (a / b)).toInt = _
    rw [Int32.toInt_ofNat_of_lt (by omega)]
  rw [e1, e2, e3, ← Int.ofNat_tdiv]
  have h3 : a / b ≤ a := Nat.div_le_self _ _
  have h4 : ((2 ^ 32 : Nat) : Int) = 4294967296 := rfl
  generalize a / b = q at h3 ⊢
  exact Int.bmod_eq_of_le_mul_two (by rw [h4]; omega) (by rw [h4]; omega)
section BKS
variable {m : Mu} {b : Nat} {d : Nat → Int32} {c ps st : Nat} {g wd : Nat → Nat} {bs : Option Nat × Option Nat × Int32}
/-! many -/
theorem many_b98_1 {Post : Int32 → Prop} {K : Int32 → Int32 → Int32 → Nat → Int32 → Int32 → Prop} {v3 v4 v5 v7 v8 v9 : Int32} {v6 : Nat} (h : K v3 v4 (v5 + 1 + v9) v6 v7 (v8 + 1)) : wpX7_many_b98 m Post K v3 v4 v5 v6 v7 v8 v9 1 := by
  unfold wpX7_many_b98 wpX7_many_b108 wpX7_many_b125
  exact ⟨fun _ => ⟨fun h => absurd h (by decide), fun _ => h⟩, fun h => absurd h (by decide)⟩
theorem many_b97 {Post : Int32 → Prop} {K : Int32 → Int32 → Int32 → Nat → Int32 → Int32 → Prop} {v3 v4 v5 v7 v8 v9 : Int32} {v6 : Nat} (h : K v3 (v4 + 1) v9 v6 v7 (v8 + 1)) : wpX7_many_b97 m Post K v3 v4 v5 v6 v7 v8 v9 := by
  unfold wpX7_many_b97 wpX7_many_b98 wpX7_many_b108 wpX7_many_b125
  exact ⟨fun h => absurd rfl h, fun _ => ⟨fun _ => h, fun h => absurd rfl h⟩⟩
theorem hol_le (hO : OkB d) (s : Nat) : hol d s ≤ 69 := by
  have := hO.w60
  have := hO.s9
  unfold hol
  split <;> (try split) <;> omega
theorem many_L {p s w : Nat} {f : Nat → Int32} {Post : Int32 → Prop} (hO : OkB d) (hp : p < dP d) (hI : mI m w = some (dN d p, f)) (hf : ∀ k, k < dN d p → f k = d (11 + 34 * p + (4 + k))) (hP : Post (nI (cnt d p s))) : ∀ r i : Nat, i + r = dN d p → wpX7_many_L63 m Post (r + 1) (nI (hol d s)) (nI (brk d p s i).1) (nI (brk d p s i).2) w (nI (dN d p)) (nI i)
  | 0, i, hi => by
    have h30 := hO.n30 hp
    unfold wpX7_many_L63
    have e : i = dN d p := by omega
    subst e
    exact ⟨fun _ => hP, fun h => absurd (nI_le (Nat.le_refl _) (by omega)) h⟩
  | r + 1, i, hi => by
    have h30 := hO.n30 hp
    have h1 : i < dN d p := by omega
    have h3 := brk_le d p s i
    have h4 := brk_used hO hp s i (by omega)
    have h5 := hO.v60 hp h1
    have h6 := hol_le hO s
    unfold wpX7_many_L63
    refine ⟨fun h => absurd ((nI_leI (by omega) (by omega)).mp h) (by omega), fun _ => ⟨_, _, i, hI, rfl, h1, by omega, ?_⟩⟩
    rw [hf i h1, hO.v hp h1]
    by_cases hc : 0 < (brk d p s i).1 ∧ (brk d p s i).2 + 1 + dV d p i ≤ hol d s
    · have hb : brk d p s (i + 1) = ((brk d p s i).1, (brk d p s i).2 + 1 + dV d p i) := by
        show (if _ then _ else _) = _
        rw [if_pos hc]
      have ih := many_L hO hp hI hf hP r (i + 1) (by omega)
      rw [hb] at ih
      have key : wpX7_many_b98 m Post (wpX7_many_L63 m Post (r + 1)) (nI (hol d s)) (nI (brk d p s i).1) (nI (brk d p s i).2) w (nI (dN d p)) (nI i) (nI (dV d p i)) 1 := by
        refine many_b98_1 ?_
        rw [li1, nI_add, nI_add, nI_add]
        exact ih
      refine ⟨fun h => absurd ((nI_leI (by omega) (by omega)).mp (show nI (brk d p s i).1 ≤ nI 0 from h)) (by omega), fun _ => ⟨fun h => ?_, fun _ => key⟩⟩
      rw [li1, nI_add, nI_add, nI_ltI (by omega) (by omega)] at h
      omega
    · have hb : brk d p s (i + 1) = ((brk d p s i).1 + 1, dV d p i) := by
        show (if _ then _ else _) = _
        rw [if_neg hc]
      have ih := many_L hO hp hI hf hP r (i + 1) (by omega)
      rw [hb] at ih
      have key : wpX7_many_b97 m Post (wpX7_many_L63 m Post (r + 1)) (nI (hol d s)) (nI (brk d p s i).1) (nI (brk d p s i).2) w (nI (dN d p)) (nI i) (nI (dV d p i)) := by
        refine many_b97 ?_
        rw [li1, nI_add, nI_add]
        exact ih
      refine ⟨fun _ => key, fun h => ⟨fun _ => key, fun h' => absurd ?_ hc⟩⟩
      have h7 : ¬ (brk d p s i).1 ≤ 0 := fun z => h (show nI (brk d p s i).1 ≤ nI 0 from nI_le z (by decide))
      rw [li1, nI_add, nI_add, nI_ltI (by omega) (by omega)] at h'
      omega
theorem many_b {p s : Nat} {Post : Int32 → Prop} (hO : OkB d) (hB : BK m b d c ps st g wd bs) (hp : p < dP d) (hP : Post (nI (cnt d p s))) : wpX7_many_b37 m Post b (nI p) (nI (hol d s)) := by
  obtain ⟨h1, -, ⟨q, h3, h3'⟩, h4, -⟩ := hB
  obtain ⟨h5, f, h6, h7⟩ := h4 p hp
  have h16 := hO.p16
  unfold wpX7_many_b37
  exact ⟨_, h1, _, rfl, _, _, p, h3, rfl, hp, by omega, _, h3' p hp, _, h5, _, rfl, _, _, h6, dN d p + 1, many_L hO hp h6 h7 hP (dN d p) 0 (by omega)⟩
theorem many_s {p s : Nat} {Post : Int32 → Prop} (hO : OkB d) (hB : BK m b d c ps st g wd bs) (hp : p < dP d) (hs : s < 3) (hP : Post (nI (cnt d p s))) : wpX7_many m b (nI p) (nI s) Post := by
  have h10 := hO.w10
  have h60 := hO.w60
  have h9 := hO.s9
  unfold wpX7_many
  refine ⟨fun h0 => ⟨fun h1 => ⟨_, hB.1, _, hB.1, ?_⟩, fun h1 => ⟨_, hB.1, _, hB.1, ?_⟩⟩, fun h0 => ⟨_, hB.1, ?_⟩⟩
  · have e : s = 2 := by
      have a0 : s ≠ 0 := fun z => h0 (by rw [z]; rfl)
      have a1 : s ≠ 1 := fun z => h1 (by rw [z]; rfl)
      omega
    subst e
    show wpX7_many_b37 m Post b (nI p) (d 0 - d 2)
    rw [hO.w, hO.s, sm_sub (by omega)]
    exact many_b hO hB hp hP
  · have e : s = 1 := (nI_eq (by omega) (by decide)).mp h1
    subst e
    show wpX7_many_b37 m Post b (nI p) (d 0 + d 2)
    rw [hO.w, hO.s, nI_add]
    exact many_b hO hB hp hP
  · have e : s = 0 := (nI_eq (by omega) (by decide)).mp h0
    subst e
    show wpX7_many_b37 m Post b (nI p) (d 0)
    rw [hO.w]
    exact many_b hO hB hp hP
/-! beginning -/
theorem beg_40 {p line : Nat} {v : Nat} {Post : Int32 → Prop} (hO : OkB d) (hB : BK m b d c ps st g wd bs) (hp : p < dP d) (hl : line < 31) (hP : Post (nI (v + if isHg d p line then dC d 5 else 0))) : wpX7_beginning_b40 m Post b (nI p) (nI line) (nI v) := by
  obtain ⟨h1, ⟨fc, hc, hc'⟩, ⟨q, h3, h3'⟩, h4, -⟩ := hB
  have h16 := hO.p16
  have no : isHg d p line = false → Post (nI v) := fun e => by
    rw [e] at hP
    exact hP
  unfold wpX7_beginning_b40
  refine ⟨fun h => no ?_, fun h0 => ⟨fun h => no ?_, fun h => ?_⟩⟩
  · have : line ≠ 0 := fun z => h (by rw [z]; rfl)
    unfold isHg
    simp [this]
  · have := (nI_leI (by omega) (by decide)).mp (show nI p ≤ nI 0 from h)
    unfold isHg
    simp [show ¬ 0 < p by omega]
  · have hp0 : 0 < p := by
      rcases Nat.eq_zero_or_pos p with z | z
      · exact absurd (show nI p ≤ nI 0 from by rw [z]; exact nI_le (Nat.le_refl _) (by decide)) h
      · exact z
    have hl0 : line = 0 := (nI_eq (by omega) (by decide)).mp (show nI line = nI 0 from h0)
    have hp1 : p - 1 < dP d := by omega
    obtain ⟨h5, -⟩ := h4 (p - 1) hp1
    refine ⟨_, h1, _, rfl, _, _, p - 1, h3, by rw [li1, sm_sub hp0], hp1, by omega, _, h3' _ hp1, _, h5, fun z => no ?_, fun z => ?_⟩
    · have z : d (11 + 34 * (p - 1)) = nI 0 := z
      rw [hO.hd hp1, bI_eq0] at z
      unfold isHg
      simp [z]
    · have z : ¬ d (11 + 34 * (p - 1)) = nI 0 := z
      rw [hO.hd hp1, bI_eq0] at z
      have z : dHd d (p - 1) = true := by cases h : dHd d (p - 1) <;> simp_all
      refine ⟨_, h1, _, rfl, _, _, 5, hc, rfl, by decide, by decide, ?_⟩
      have e : isHg d p line = true := by
        unfold isHg
        simp [z, hl0, hp0]
      rw [e, if_pos rfl] at hP
      rw [hc' 5 (by decide), hO.c (k := 5) (by decide), nI_add]
      exact hP
theorem beg_15 {p line cn : Nat} {v : Nat} {Post : Int32 → Prop} (hO : OkB d) (hB : BK m b d c ps st g wd bs) (hp : p < dP d) (hl : line < cn) (hc30 : cn ≤ 30) (hP : Post (nI (v + (if isWd line cn then dC d 3 else 0) + if isHg d p line then dC d 5 else 0))) : wpX7_beginning_b15 m Post b (nI p) (nI line) (nI cn) (nI v) := by
  have hB' := hB
  obtain ⟨h1, ⟨fc, hc, hc'⟩, -, -, -⟩ := hB
  unfold wpX7_beginning_b15
  refine ⟨fun h => beg_40 hO hB' hp (by omega) ?_, fun h => ⟨fun h2 => beg_40 hO hB' hp (by omega) ?_, fun h2 => ⟨_, h1, _, rfl, _, _, 3, hc, rfl, by decide, by decide, ?_⟩⟩⟩
  · have := (nI_leI (by omega) (by decide)).mp (show nI cn ≤ nI 1 from h)
    have e : isWd line cn = false := by
      unfold isWd
      rw [if_pos (by omega)]
    rw [e] at hP
    exact hP
  · have hc2 : ¬ cn ≤ 1 := fun z => h (show nI cn ≤ nI 1 from nI_le z (by decide))
    have e : isWd line cn = false := by
      unfold isWd
      rw [if_neg (by omega), if_neg (fun z => h2 (by rw [li1, sm_sub (by omega), z]))]
    rw [e] at hP
    exact hP
  · have hc2 : ¬ cn ≤ 1 := fun z => h (show nI cn ≤ nI 1 from nI_le z (by decide))
    rw [li1, sm_sub (by omega)] at h2
    have e : isWd line cn = true := by
      unfold isWd
      rw [if_neg (by omega), if_pos ((nI_eq (by omega) (by omega)).mp h2)]
    rw [e, if_pos rfl] at hP
    rw [hc' 3 (by decide), hO.c (k := 3) (by decide), nI_add]
    exact beg_40 hO hB' hp (by omega) hP
theorem beg_s {p line cn : Nat} {Post : Int32 → Prop} (hO : OkB d) (hB : BK m b d c ps st g wd bs) (hp : p < dP d) (hl : line < cn) (hc30 : cn ≤ 30) (hP : Post (nI (bC d p line cn))) : wpX7_beginning m b (nI p) (nI line) (nI cn) Post := by
  have hB' := hB
  obtain ⟨h1, ⟨fc, hc, hc'⟩, -, -, -⟩ := hB
  unfold bC at hP
  unfold wpX7_beginning
  refine ⟨fun h => ?_, fun h => ⟨_, h1, _, rfl, _, _, 4, hc, rfl, by decide, by decide, ?_⟩⟩
  · refine beg_15 (v := 0) hO hB' hp hl hc30 ?_
    have e : isOr line cn = false := by
      unfold isOr
      split
      · rfl
      · rw [if_neg (fun z => h (by rw [z]; rfl))]
    have e2 : (if isOr line cn = true then dC d 4 else 0) = 0 := by rw [e]; rfl
    rw [e2, Nat.add_zero] at hP
    rw [Nat.zero_add]
    exact hP
  · have e1 : line = 1 := (nI_eq (by omega) (by decide)).mp h
    rw [hc' 4 (by decide), hO.c (k := 4) (by decide)]
    refine beg_15 hO hB' hp hl hc30 ?_
    have e : isOr line cn = true := by
      unfold isOr
      rw [if_neg (by omega), if_pos e1]
    have e2 : (if isOr line cn = true then dC d 4 else 0) = dC d 4 := by rw [e]; rfl
    rw [e2, Nat.add_comm (if isWd line cn = true then dC d 3 else 0)] at hP
    exact hP
end BKS
