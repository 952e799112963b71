/-! SMALL NUMBERS: every int that the two programs handle is nI of a natural, or -1. -/
theorem li0 : (0 : Int32) = nI 0 := rfl
theorem li1 : (1 : Int32) = nI 1 := rfl
theorem li2 : (2 : Int32) = nI 2 := rfl
theorem li3 : (3 : Int32) = nI 3 := rfl
theorem li4 : (4 : Int32) = nI 4 := rfl
theorem li5 : (5 : Int32) = nI 5 := rfl
theorem li6 : (6 : Int32) = nI 6 := rfl
theorem li7 : (7 : Int32) = nI 7 := rfl
theorem li8 : (8 : Int32) = nI 8 := rfl
theorem li9 : (9 : Int32) = nI 9 := rfl
theorem li10 : (10 : Int32) = nI 10 := rfl
theorem li11 : (11 : Int32) = nI 11 := rfl
theorem li12 : (12 : Int32) = nI 12 := rfl
theorem li13 : (13 : Int32) = nI 13 := rfl
theorem li16 : (16 : Int32) = nI 16 := rfl
theorem li20 : (20 : Int32) = nI 20 := rfl
theorem li24 : (24 : Int32) = nI 24 := rfl
theorem li30 : (30 : Int32) = nI 30 := rfl
theorem li32 : (32 : Int32) = nI 32 := rfl
theorem li34 : (34 : Int32) = nI 34 := rfl
theorem li40 : (40 : Int32) = nI 40 := rfl
theorem li41 : (41 : Int32) = nI 41 := rfl
theorem li48 : (48 : Int32) = nI 48 := rfl
theorem li57 : (57 : Int32) = nI 57 := rfl
theorem li59 : (59 : Int32) = nI 59 := rfl
theorem li60 : (60 : Int32) = nI 60 := rfl
theorem li97 : (97 : Int32) = nI 97 := rfl
theorem li122 : (122 : Int32) = nI 122 := rfl
theorem li255 : (255 : Int32) = nI 255 := rfl
theorem li555 : (555 : Int32) = nI 555 := rfl
theorem li700 : (700 : Int32) = nI 700 := rfl
theorem li999 : (999 : Int32) = nI 999 := rfl
theorem li100000 : (100000 : Int32) = nI 100000 := rfl
theorem li100000000 : (100000000 : Int32) = nI 100000000 := rfl
theorem li1000000000 : (1000000000 : Int32) = nI 1000000000 := rfl
def bI (b : Bool) : Int32 := if b then nI 1 else nI 0
theorem bI_t : bI true = nI 1 := rfl
theorem bI_f : bI false = nI 0 := rfl
theorem bI_eq0 {b : Bool} : (bI b = nI 0) = (b = false) := by cases b <;> decide
theorem bI_eq1 {b : Bool} : (bI b = nI 1) = (b = true) := by cases b <;> decide
theorem bI_01 (b : Bool) : bI b = nI 0 ∨ bI b = nI 1 := by cases b <;> decide
theorem sm_sub {a b : Nat} (h : b ≤ a) : nI a - nI b = nI (a - b) := pk_sub h
theorem vp_in_T {i N : Nat} (h : i < N) (hN : N < 2 ^ 31) : vp_in (nI i) N = True := eq_true (vp_in_nI h hN)
theorem nI_ne_m1 {a : Nat} (ha : a < 2 ^ 31) : (nI a = (-1 : Int32)) = False := by
  refine eq_false fun h => ?_
  have h1 := congrArg Int32.toInt h
  rw [nI_toInt ha, show (-1 : Int32).toInt = -1 from by decide] at h1
  omega
theorem m1_lt {a : Nat} (ha : a < 2 ^ 31) : ((-1 : Int32) < nI a) = True := by
  refine eq_true ?_
  rw [Int32.lt_iff_toInt_lt, nI_toInt ha, show (-1 : Int32).toInt = -1 from by decide]
  omega
theorem m1_le {a : Nat} (ha : a < 2 ^ 31) : ((-1 : Int32) ≤ nI a) = True := by
  refine eq_true ?_
  rw [Int32.le_iff_toInt_le, nI_toInt ha, show (-1 : Int32).toInt = -1 from by decide]
  omega
theorem nlt_m1 {a : Nat} (ha : a < 2 ^ 31) : (nI a < (-1 : Int32)) = False := by
  refine eq_false ?_
  rw [Int32.lt_iff_toInt_lt, nI_toInt ha, show (-1 : Int32).toInt = -1 from by decide]
  omega
theorem nle_m1 {a : Nat} (ha : a < 2 ^ 31) : (nI a ≤ (-1 : Int32)) = False := by
  refine eq_false ?_
  rw [Int32.le_iff_toInt_le, nI_toInt ha, show (-1 : Int32).toInt = -1 from by decide]
  omega
theorem nI_m1 {a : Nat} (ha : 1 ≤ a) : nI a + (-1 : Int32) = nI (a - 1) := by
  obtain ⟨c, rfl⟩ : ∃ c, a = c + 1 := ⟨a - 1, by omega⟩
  rw [pk_m1, Nat.add_sub_cancel]
theorem z_m1 : nI 0 - nI 1 = (-1 : Int32) := by decide
theorem z_m1' : nI 0 + (-1 : Int32) = (-1 : Int32) := by decide
/-- an int is negative or a natural -/
theorem i_cases (x : Int32) : x < nI 0 ∨ ∃ n : Nat, n < 2 ^ 31 ∧ x = nI n := by
  by_cases h : x < 0
  · exact Or.inl h
  · exact Or.inr (nI_of h)
theorem neg_le {x : Int32} {a : Nat} (hx : x < nI 0) (ha : a < 2 ^ 31) : (nI a ≤ x) = False := by
  refine eq_false ?_
  rw [Int32.lt_iff_toInt_lt, show (nI 0).toInt = 0 from by decide] at hx
  rw [Int32.le_iff_toInt_le, nI_toInt ha]
  omega
theorem neg_lt {x : Int32} {a : Nat} (hx : x < nI 0) (ha : a < 2 ^ 31) : (nI a < x) = False := by
  refine eq_false ?_
  rw [Int32.lt_iff_toInt_lt, show (nI 0).toInt = 0 from by decide] at hx
  rw [Int32.lt_iff_toInt_lt, nI_toInt ha]
  omega
theorem neg_lt' {x : Int32} {a : Nat} (hx : x < nI 0) (ha : a < 2 ^ 31) : (x < nI a) = True := by
  refine eq_true ?_
  rw [Int32.lt_iff_toInt_lt, show (nI 0).toInt = 0 from by decide] at hx
  rw [Int32.lt_iff_toInt_lt, nI_toInt ha]
  omega
theorem neg_le' {x : Int32} {a : Nat} (hx : x < nI 0) (ha : a < 2 ^ 31) : (x ≤ nI a) = True := by
  refine eq_true ?_
  rw [Int32.lt_iff_toInt_lt, show (nI 0).toInt = 0 from by decide] at hx
  rw [Int32.le_iff_toInt_le, nI_toInt ha]
  omega
theorem neg_eq {x : Int32} {a : Nat} (hx : x < nI 0) (ha : a < 2 ^ 31) : (x = nI a) = False := by
  refine eq_false fun h => ?_
  subst h
  rw [Int32.lt_iff_toInt_lt, show (nI 0).toInt = 0 from by decide, nI_toInt ha] at hx
  omega
/-! the two rows' accessors -/
theorem get_e {n i : Nat} {q : Nat → Int32} {Post : Int32 → Prop} (h : i < n) (hn : n < 2 ^ 31) : wpX6_get n q (nI i) Post = Post (q i) := by
  unfold wpX6_get
  have h1 : ¬ nI i < 0 := nI_pos (by omega)
  have h2 : ¬ nI n ≤ nI i := nI_ge h hn
  simp (disch := omega) only [h1, h2, vp_in_T, nI_clamp, false_implies, not_false_eq_true, true_implies, true_and]
theorem get_out {n i : Nat} {q : Nat → Int32} {Post : Int32 → Prop} (h : n ≤ i) (hi : i < 2 ^ 31) : wpX6_get n q (nI i) Post = Post (nI 0) := by
  unfold wpX6_get
  have h1 : ¬ nI i < 0 := nI_pos (by omega)
  have h2 : nI n ≤ nI i := nI_le h hi
  simp only [h1, h2, false_implies, not_false_eq_true, true_implies, true_and, not_true_eq_false, and_true]
  rfl
theorem get_neg {n : Nat} {x : Int32} {q : Nat → Int32} {Post : Int32 → Prop} (h : x < nI 0) : wpX6_get n q x Post = Post (nI 0) := by
  unfold wpX6_get
  have h1 : x < 0 := h
  simp only [h1, true_implies, not_true_eq_false, false_implies, and_true]
  rfl
theorem get_any {n : Nat} {x : Int32} {q : Nat → Int32} {Post : Int32 → Prop} (hn : n < 2 ^ 31) (h : ∀ r, Post r) : wpX6_get n q x Post := by
  rcases i_cases x with hx | ⟨i, hi, rfl⟩
  · rw [get_neg hx]; exact h _
  · rcases Nat.lt_or_ge i n with hin | hin
    · rw [get_e hin hn]; exact h _
    · rw [get_out hin hi]; exact h _
theorem put_e {n i : Nat} {q : Nat → Int32} {x : Int32} {Post : (Nat → Int32) → Prop} (h : i < n) (hn : n < 2 ^ 31) : wpX6_put n q (nI i) x Post = Post (upd q i x) := by
  unfold wpX6_put
  have h1 : ¬ nI i < 0 := nI_pos (by omega)
  have h2 : ¬ nI n ≤ nI i := nI_ge h hn
  simp (disch := omega) only [h1, h2, vp_in_T, nI_clamp, false_implies, not_false_eq_true, true_implies, true_and]
theorem put_any {n : Nat} {x y : Int32} {q : Nat → Int32} {Post : (Nat → Int32) → Prop} (hn : n < 2 ^ 31) (h : ∀ r, Post r) : wpX6_put n q x y Post := by
  unfold wpX6_put
  refine ⟨fun _ => h _, fun h1 => ⟨fun _ => h _, fun h2 => ⟨?_, h _⟩⟩⟩
  obtain ⟨i, hi, rfl⟩ := nI_of h1
  rw [nI_leI hn hi] at h2
  exact vp_in_nI (by omega) hn
theorem copyRow_L {n1 n2 : Nat} {q1 : Nat → Int32} {Post : (Nat → Int32) → Prop} (hn1 : n1 < 2 ^ 30) (hn2 : n2 < 2 ^ 30) : ∀ (k i : Nat) (q2 : Nat → Int32), i + k = min n1 n2 → (∀ q', (∀ j, q' j = if i ≤ j ∧ j < min n1 n2 then q1 j else q2 j) → Post q') → wpX6_copyRow_L2 n1 q1 n2 Post (k + 1) q2 (nI i)
  | 0, i, q2, hk, h => by
    unfold wpX6_copyRow_L2
    have hP : Post q2 := h q2 (fun j => by rw [if_neg (by omega)])
    refine ⟨fun _ => hP, fun h1 => ⟨fun _ => hP, fun h2 => ?_⟩⟩
    rw [nI_leI (by omega) (by omega)] at h1 h2
    omega
  | k + 1, i, q2, hk, h => by
    unfold wpX6_copyRow_L2
    have h1 : ¬ nI n1 ≤ nI i := by rw [nI_leI (by omega) (by omega)]; omega
    have h2 : ¬ nI n2 ≤ nI i := by rw [nI_leI (by omega) (by omega)]; omega
    refine ⟨fun z => absurd z h1, fun _ => ⟨fun z => absurd z h2, fun _ => ⟨vp_in_nI (by omega) (by omega), vp_in_nI (by omega) (by omega), ?_⟩⟩⟩
    rw [nI_clamp (by omega), nI_1]
    refine copyRow_L hn1 hn2 k (i + 1) _ (by omega) (fun q' hq => h q' (fun j => ?_))
    rw [hq j]
    by_cases e : j = i
    · subst e
      rw [if_neg (by omega), if_pos (by omega), pk_us]
    · rw [pk_un e]
      by_cases z : i ≤ j ∧ j < min n1 n2
      · rw [if_pos z, if_pos (by omega)]
      · rw [if_neg z, if_neg (by omega)]
theorem copyRow_s {n1 n2 : Nat} {q1 q2 : Nat → Int32} {Post : (Nat → Int32) → Prop} (hn1 : n1 < 2 ^ 30) (hn2 : n2 < 2 ^ 30) (h : ∀ q', (∀ j, q' j = if j < min n1 n2 then q1 j else q2 j) → Post q') : wpX6_copyRow n1 q1 n2 q2 Post :=
  ⟨min n1 n2 + 1, copyRow_L hn1 hn2 (min n1 n2) 0 q2 (by omega) (fun q' hq => h q' (fun j => by rw [hq j]; simp))⟩
