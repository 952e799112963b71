/-! THE LAW'S BOOK TELLS: places, pages, plans, paragraphs, the book -/
def LK (m : Mu) (pl : Nat) (d : Nat → Int32) (sg : Nat → Nat) (q : Pl) (co : Int32) (sa ta : Nat) : Prop :=
  mL m pl = some (co, some sa, some ta) ∧ (∃ f, mI m sa = some (dP d, f) ∧ ∀ p, p < dP d → f p = nI (sg p)) ∧ ∃ f, mI m ta = some (q.1, f) ∧ ∀ i, i < q.1 → f i = nI (fst1 d sg q i)
theorem lp_480 {d : Nat → Int32} {sg : Nat → Nat} (hO : OkB d) : ∀ p, p ≤ dP d → lp d sg p ≤ 30 * p
  | 0, _ => Nat.le_refl _
  | p + 1, hp => by
    have h1 := lp_480 (sg := sg) hO p (by omega)
    have h2 := cnt_le hO (show p < dP d by omega) (sg p)
    rw [lp_s]
    omega
theorem i_sub_add (x y z : Int32) : x - y + z = x + z - y := by
  rw [Int32.sub_eq_add_neg, Int32.sub_eq_add_neg, Int32.add_assoc, Int32.add_comm (-y), Int32.add_assoc]
/-- a / 100 and a % 100 of a place -/
theorem pl_div {p l : Nat} (hp : p < 1000) (hl : l < 100) : nI (100 * p + l) / (100 : Int32) = nI p := by
  rw [li100, nI_div (by omega) (by decide), show (100 * p + l) / 100 = p by omega]
theorem pl_mod {p l : Nat} (hp : p < 1000) (hl : l < 100) : nI (100 * p + l) - nI (100 * p + l) / (100 : Int32) * (100 : Int32) = nI l := by
  rw [pl_div hp hl, li100, pk_mul, sm_sub (by omega), show 100 * p + l - p * 100 = l by omega]
section TEL
variable {m : Mu} {b pl : Nat} {d : Nat → Int32} {c ps st sa ta : Nat} {g wd : Nat → Nat} {bs : Option Nat × Option Nat × Int32} {sg : Nat → Nat} {q : Pl} {co : Int32}
theorem place_L {p line : Nat} {Post : Int32 → Prop} (hO : OkB d) (hB : BK m b d c ps st g wd bs) (hL : LK m pl d sg q co sa ta) (h3 : ∀ p, p < dP d → sg p < 3) (hp : p < dP d) (hl : line < cnt d p (sg p)) (hP : Post (nI (100 * p + line))) : ∀ r x : Nat, x + r = p → wpX7_place_L5 m Post (r + 1) b pl (nI (lp d sg p + line - lp d sg x)) (nI x)
  | r, x, hx => by
    have hB' := hB
    obtain ⟨h1, -, ⟨qq, h5, -⟩, -, -⟩ := hB
    obtain ⟨l1, ⟨f, l2, l2'⟩, l3⟩ := hL
    have h16 := hO.p16
    have hlp := lp_480 (sg := sg) hO p (by omega)
    have hmx := lp_mono (d := d) (sg := sg) (show x ≤ p by omega)
    have hc := cnt_le hO hp (sg p)
    have hxd : x < dP d := by omega
    have hcx := cnt_le hO hxd (sg x)
    unfold wpX7_place_L5
    refine ⟨_, h1, _, rfl, _, _, h5, fun h => absurd ((nI_leI (by omega) (by omega)).mp h) (by omega), fun _ => ⟨_, l1, _, rfl, _, _, x, l2, rfl, by omega, by omega, _, h1, ?_⟩⟩
    rw [l2' x hxd]
    refine many_s hO hB' hxd (h3 x hxd) ⟨fun h => ?_, fun h => ?_⟩
    · rw [nI_leI (by omega) (by omega)] at h
      cases r with
      | zero =>
        have e : x = p := by omega
        subst e
        exact absurd h (by omega)
      | succ r =>
        have ih := place_L hO hB' ⟨l1, ⟨f, l2, l2'⟩, l3⟩ h3 hp hl hP r (x + 1) (by omega)
        rw [lp_s] at ih
        rw [sm_sub h, li1, nI_add, show lp d sg p + line - lp d sg x - cnt d x (sg x) = lp d sg p + line - (lp d sg x + cnt d x (sg x)) by omega]
        exact ih
    · have e : x = p := by
        rcases Nat.lt_or_eq_of_le (show x ≤ p by omega) with z | z
        · have h9 := lp_mono (d := d) (sg := sg) (show x + 1 ≤ p from z)
          rw [lp_s] at h9
          exact absurd (nI_le (show cnt d x (sg x) ≤ lp d sg p + line - lp d sg x by omega) (by omega)) h
        · exact z
      subst e
      rw [show lp d sg x + line - lp d sg x = line by omega, li100, pk_mul, nI_add]
      exact hP
theorem place_s {p line : Nat} {Post : Int32 → Prop} (hO : OkB d) (hB : BK m b d c ps st g wd bs) (hL : LK m pl d sg q co sa ta) (h3 : ∀ p, p < dP d → sg p < 3) (hp : p < dP d) (hl : line < cnt d p (sg p)) (hP : Post (nI (100 * p + line))) : wpX7_place m b pl (nI (lp d sg p + line)) Post :=
  ⟨p + 1, place_L hO hB hL h3 hp hl hP p 0 (Nat.zero_add _)⟩
theorem place_E {Post : Int32 → Prop} (hO : OkB d) (hB : BK m b d c ps st g wd bs) (hL : LK m pl d sg q co sa ta) (h3 : ∀ p, p < dP d → sg p < 3) (hP : Post (-1)) : ∀ r x : Nat, x + r = dP d → wpX7_place_L5 m Post (r + 1) b pl (nI (lp d sg (dP d) - lp d sg x)) (nI x)
  | r, x, hx => by
    have hB' := hB
    obtain ⟨h1, -, ⟨qq, h5, -⟩, -, -⟩ := hB
    obtain ⟨l1, ⟨f, l2, l2'⟩, l3⟩ := hL
    have h16 := hO.p16
    have hlp := lp_480 (sg := sg) hO (dP d) (Nat.le_refl _)
    have hmx := lp_mono (d := d) (sg := sg) (show x ≤ dP d by omega)
    unfold wpX7_place_L5
    refine ⟨_, h1, _, rfl, _, _, h5, fun h => hP, fun h => ⟨_, l1, _, rfl, _, _, x, l2, rfl, ?_, by omega, _, h1, ?_⟩⟩
    · rcases Nat.lt_or_ge x (dP d) with z | z
      · exact z
      · exact absurd (nI_le z (by omega)) h
    · have hxd : x < dP d := by
        rcases Nat.lt_or_ge x (dP d) with z | z
        · exact z
        · exact absurd (nI_le z (by omega)) h
      have h9 := lp_mono (d := d) (sg := sg) (show x + 1 ≤ dP d from hxd)
      rw [lp_s] at h9
      rw [l2' x hxd]
      refine many_s hO hB' hxd (h3 x hxd) ⟨fun z => ?_, fun z => absurd (nI_le (show cnt d x (sg x) ≤ lp d sg (dP d) - lp d sg x by omega) (by omega)) z⟩
      cases r with
      | zero => exact absurd hxd (by omega)
      | succ r =>
        have ih := place_E hO hB' ⟨l1, ⟨f, l2, l2'⟩, l3⟩ h3 hP r (x + 1) (by omega)
        rw [lp_s] at ih
        rw [sm_sub (by omega), li1, nI_add, show lp d sg (dP d) - lp d sg x - cnt d x (sg x) = lp d sg (dP d) - (lp d sg x + cnt d x (sg x)) by omega]
        exact ih
theorem place_e {Post : Int32 → Prop} (hO : OkB d) (hB : BK m b d c ps st g wd bs) (hL : LK m pl d sg q co sa ta) (h3 : ∀ p, p < dP d → sg p < 3) (hP : Post (-1)) : wpX7_place m b pl (nI (lp d sg (dP d))) Post :=
  ⟨dP d + 1, place_E hO hB hL h3 hP (dP d) 0 (Nat.zero_add _)⟩
theorem all_L {Post : Int32 → Prop} (hO : OkB d) (hB : BK m b d c ps st g wd bs) (hL : LK m pl d sg q co sa ta) (h3 : ∀ p, p < dP d → sg p < 3) (hP : Post (nI (lp d sg (dP d)))) : ∀ r x : Nat, x + r = dP d → wpX7_allLines_L4 m Post (r + 1) b pl (nI (lp d sg x)) (nI x)
  | r, x, hx => by
    have hB' := hB
    obtain ⟨h1, -, ⟨qq, h5, -⟩, -, -⟩ := hB
    obtain ⟨l1, ⟨f, l2, l2'⟩, l3⟩ := hL
    have h16 := hO.p16
    unfold wpX7_allLines_L4
    refine ⟨_, h1, _, rfl, _, _, h5, fun h => ?_, fun h => ?_⟩
    · have e : x = dP d := by
        have := (nI_leI (by omega) (by omega)).mp h
        omega
      rw [e]
      exact hP
    · have hxd : x < dP d := by
        rcases Nat.lt_or_ge x (dP d) with z | z
        · exact z
        · exact absurd (nI_le z (by omega)) h
      refine ⟨_, l1, _, rfl, _, _, x, l2, rfl, hxd, by omega, _, h1, ?_⟩
      rw [l2' x hxd]
      refine many_s hO hB' hxd (h3 x hxd) ?_
      cases r with
      | zero => exact absurd hxd (by omega)
      | succ r =>
        have ih := all_L hO hB' ⟨l1, ⟨f, l2, l2'⟩, l3⟩ h3 hP r (x + 1) (by omega)
        rw [lp_s] at ih
        rw [nI_add, li1, nI_add]
        exact ih
theorem all_s {Post : Int32 → Prop} (hO : OkB d) (hB : BK m b d c ps st g wd bs) (hL : LK m pl d sg q co sa ta) (h3 : ∀ p, p < dP d → sg p < 3) (hP : Post (nI (lp d sg (dP d)))) : wpX7_allLines m b pl Post :=
  ⟨dP d + 1, all_L hO hB hL h3 hP (dP d) 0 (Nat.zero_add _)⟩
/-- where a page begins -/
theorem place_k {k : Nat} {Post : Int32 → Prop} (hO : OkB d) (hB : BK m b d c ps st g wd bs) (hL : LK m pl d sg q co sa ta) (h3 : ∀ p, p < dP d → sg p < 3) (hQ : PQ d sg q (lp d sg (dP d))) (hk : k < q.1) (hP : Post (nI (100 * q.2.1 k + q.2.2.1 k))) : wpX7_place m b pl (nI (fst1 d sg q k)) Post :=
  place_s hO hB hL h3 (hQ.1 k hk).1 (hQ.1 k hk).2.1 hP
theorem isWidow_k {k : Nat} {Post : Int32 → Prop} (hO : OkB d) (hB : BK m b d c ps st g wd bs) (hL : LK m pl d sg q co sa ta) (h3 : ∀ p, p < dP d → sg p < 3) (hQ : PQ d sg q (lp d sg (dP d))) (hk : k < q.1) (hP : Post (bI (wdP q (fun p => cnt d p (sg p)) k))) : wpX7_isWidow m b pl (nI k) Post := by
  have hB' := hB
  have hL' := hL
  obtain ⟨h1, -, -, -, -⟩ := hB
  obtain ⟨l1, ⟨f, l2, l2'⟩, ft, l3, l3'⟩ := hL
  have h16 := hO.p16
  have hq := hQ.len
  have hlp := lp_480 (sg := sg) hO (dP d) (Nat.le_refl _)
  obtain ⟨hp, hl, -⟩ := hQ.1 k hk
  have hc := cnt_le hO hp (sg (q.2.1 k))
  unfold wpX7_isWidow
  refine ⟨fun h => ⟨_, l1, _, rfl, _, _, k, l3, rfl, hk, by omega, _, h1, ?_⟩, fun h => ?_⟩
  · have hk0 : ¬ k ≤ 0 := fun z => h (by rw [Nat.le_zero.mp z]; rfl)
    rw [l3' k hk]
    refine place_k hO hB' hL' h3 hQ hk ⟨_, l1, _, rfl, _, _, q.2.1 k, l2, pl_div (by omega) (by omega), hp, by omega, _, h1, ?_⟩
    rw [pl_mod (by omega) (by omega), pl_div (by omega) (by omega), l2' _ hp]
    refine many_s hO hB' hp (h3 _ hp) ?_
    unfold wdP isWd at hP
    rw [if_neg hk0] at hP
    refine ⟨fun z => ?_, fun z => ⟨fun z2 => ?_, fun z2 => ?_⟩⟩
    · rw [li1, nI_leI (by omega) (by decide)] at z
      rw [if_pos (by show cnt d (q.2.1 k) (sg (q.2.1 k)) < 2; omega)] at hP
      exact hP
    · rw [li1, nI_leI (by omega) (by decide)] at z
      rw [if_neg (by show ¬ cnt d (q.2.1 k) (sg (q.2.1 k)) < 2; omega), if_neg (fun e => z2 (by rw [li1, sm_sub (by omega), e]))] at hP
      exact hP
    · rw [li1, nI_leI (by omega) (by decide)] at z
      rw [li1, sm_sub (by omega), nI_eq (by omega) (by omega)] at z2
      rw [if_neg (by show ¬ cnt d (q.2.1 k) (sg (q.2.1 k)) < 2; omega), if_pos z2] at hP
      exact hP
  · have hk0 : k ≤ 0 := by
      have := (nI_eq (by omega) (by decide)).mp (show nI k = nI 0 from h)
      omega
    unfold wdP at hP
    rw [if_pos hk0] at hP
    exact hP
/-! a page -/
theorem ofPage_175 {k n : Nat} {Post : Int32 → Prop} (hO : OkB d) (hB : BK m b d c ps st g wd bs) (hL : LK m pl d sg q co sa ta) (hQ : PQ d sg q (lp d sg (dP d))) (hk : k < q.1) (hn : n ≤ dH d) (hP : Post (nI ((dH d - n) * dC d 2))) : wpX7_ofPage_b175 m Post b pl (nI k) (nI (fst1 d sg q k + n)) := by
  obtain ⟨h1, ⟨fc, hc, hc'⟩, -, -, -⟩ := hB
  obtain ⟨l1, -, ft, l3, l3'⟩ := hL
  have h40 := hO.h40
  have hq := hQ.len
  have hlp := lp_480 (sg := sg) hO (dP d) (Nat.le_refl _)
  have h16 := hO.p16
  unfold wpX7_ofPage_b175
  refine ⟨_, h1, _, l1, _, rfl, _, _, k, l3, rfl, hk, by omega, _, h1, _, rfl, _, _, 2, hc, rfl, by decide, by decide, ?_⟩
  show Post ((d 1 - nI (fst1 d sg q k + n) + ft k) * fc 2)
  rw [l3' k hk, hc' 2 (by decide), hO.c (k := 2) (by decide), hO.h, i_sub_add, nI_add, sm_sub (by omega), pk_mul, show dH d + fst1 d sg q k - (fst1 d sg q k + n) = dH d - n by omega]
  exact hP
theorem ofPage_27 {k what : Nat} {Post : Int32 → Prop} (hO : OkB d) (hB : BK m b d c ps st g wd bs) (hL : LK m pl d sg q co sa ta) (h3 : ∀ p, p < dP d → sg p < 3) (hQ : PQ d sg q (lp d sg (dP d))) (hK : PlOk d q (dP d)) (hk : k < q.1) (hw : what < 5) (hP : Post (nI (pgN d q (fun p => cnt d p (sg p)) k what))) : wpX7_ofPage_b27 m Post b pl (nI k) (nI what) (nI (fst1 d sg q k + q.2.2.2 k)) := by
  have hB' := hB
  have hL' := hL
  obtain ⟨h1, ⟨fc, hc, hc'⟩, ⟨qq, h5, h5'⟩, h4, -⟩ := hB
  obtain ⟨l1, ⟨f, l2, l2'⟩, ft, l3, l3'⟩ := hL
  have h16 := hO.p16
  have hq := hQ.len
  have hlp := lp_480 (sg := sg) hO (dP d) (Nat.le_refl _)
  obtain ⟨hp, hl, -⟩ := hQ.1 k hk
  have hcc := cnt_le hO hp (sg (q.2.1 k))
  obtain ⟨-, -, -, hsz⟩ := hK.2 k hk
  have h2k := hQ.2.1 k hk
  have hfle := hQ.le (q.1 - 1 - k) k (by omega)
  unfold wpX7_ofPage_b27
  refine ⟨_, l1, _, rfl, _, _, k, l3, rfl, hk, by omega, _, h1, ?_⟩
  rw [l3' k hk]
  refine place_k hO hB' hL' h3 hQ hk ?_
  rw [pl_mod (by omega) (by omega), pl_div (by omega) (by omega)]
  have e0 : what = 0 ∨ what = 1 ∨ what = 2 ∨ what = 3 ∨ what = 4 := by omega
  rcases e0 with rfl | rfl | rfl | rfl | rfl
  · refine ⟨fun h => absurd rfl h, fun _ => ⟨_, l1, _, rfl, _, _, k, l3, rfl, hk, by omega, ?_⟩⟩
    rw [l3' k hk, sm_sub (by omega), show fst1 d sg q k + q.2.2.2 k - fst1 d sg q k = q.2.2.2 k by omega]
    exact hP
  · exact ⟨fun _ => ⟨fun h => absurd h (by decide), fun _ => ⟨fun h => absurd rfl h, fun _ => hP⟩⟩, fun h => absurd h (by decide)⟩
  · exact ⟨fun _ => ⟨fun h => absurd h (by decide), fun _ => ⟨fun _ => hP, fun h => absurd h (by decide)⟩⟩, fun h => absurd h (by decide)⟩
  · refine ⟨fun _ => ⟨fun _ => ⟨fun h => absurd rfl h, fun _ => ⟨fun h => ?_, fun h => ?_⟩⟩, fun h => absurd (by decide) h⟩, fun h => absurd h (by decide)⟩
    · have hk0 : ¬ k = 0 := fun z => h (by rw [z]; rfl)
      refine ⟨_, l1, _, rfl, _, _, q.2.1 k, l2, rfl, hp, by omega, _, h1, ?_⟩
      rw [l2' _ hp]
      refine many_s hO hB' hp (h3 _ hp) ⟨_, h1, ?_⟩
      refine beg_s hO hB' hp hl hcc ?_
      have e : pgN d q (fun p => cnt d p (sg p)) k 3 = bC d (q.2.1 k) (q.2.2.1 k) (cnt d (q.2.1 k) (sg (q.2.1 k))) := if_neg hk0
      rw [e] at hP
      exact hP
    · have hk0 : k = 0 := (nI_eq (by omega) (by decide)).mp (show nI k = nI 0 from h)
      have e : pgN d q (fun p => cnt d p (sg p)) k 3 = 0 := if_pos hk0
      rw [e] at hP
      exact hP
  · refine ⟨fun _ => ⟨fun _ => ⟨fun _ => ⟨_, h1, ?_⟩, fun h => absurd h (by decide)⟩, fun h => absurd (by decide) h⟩, fun h => absurd h (by decide)⟩
    by_cases hz : k + 1 < q.1
    · rw [if_pos hz] at h2k
      have hk1 : ¬ k = q.1 - 1 := by omega
      obtain ⟨hp', hl', -⟩ := hQ.1 (k + 1) hz
      have hcc' := cnt_le hO hp' (sg (q.2.1 (k + 1)))
      have e : pgN d q (fun p => cnt d p (sg p)) k 4 = eC d (sta d (q.2.1 (k + 1)) (q.2.2.1 (k + 1))) (q.2.2.2 k) := if_neg hk1
      rw [e] at hP
      have g175 : sta d (q.2.1 (k + 1)) (q.2.2.1 (k + 1)) = false → wpX7_ofPage_b175 m Post b pl (nI k) (nI (fst1 d sg q k + q.2.2.2 k)) := fun z => by
        refine ofPage_175 hO hB' hL' hQ hk hsz ?_
        rw [z] at hP
        exact hP
      have g171 : sta d (q.2.1 (k + 1)) (q.2.2.1 (k + 1)) = true → wpX7_ofPage_b171 m Post := fun z => by
        rw [z] at hP
        exact hP
      have pk := place_k (Post := fun r10 => ∃ x11, mL m pl = some x11 ∧ ∃ a11, x11.2.2 = some a11 ∧ ∃ n12 f12, mI m a11 = some (n12, f12) ∧ (nI k + 1 = nI n12 → wpX7_ofPage_b171 m Post) ∧ (¬nI k + 1 = nI n12 → (¬r10 - r10 / 100 * 100 = 0 → wpX7_ofPage_b175 m Post b pl (nI k) (nI (fst1 d sg q k + q.2.2.2 k))) ∧ (r10 - r10 / 100 * 100 = 0 → ∃ x18, mB m b = some x18 ∧ ∃ a18, x18.2.2.2.2.2.1 = some a18 ∧ ∃ n19 f19 k19, mQ m a18 = some (2, n19, f19) ∧ r10 / 100 = nI k19 ∧ k19 < n19 ∧ n19 ≤ 1000 ∧ ∃ a19, f19 k19 = some a19 ∧ ∃ x20, mP m a19 = some x20 ∧ (x20.2.1 = 0 → wpX7_ofPage_b175 m Post b pl (nI k) (nI (fst1 d sg q k + q.2.2.2 k))) ∧ (¬x20.2.1 = 0 → wpX7_ofPage_b171 m Post)))) hO hB' hL' h3 hQ hz ?_
      · rw [← h2k] at pk
        exact pk
      · rw [pl_mod (by omega) (by omega), pl_div (by omega) (by omega)]
        refine ⟨_, l1, _, rfl, _, _, l3, fun z => ?_, fun _ => ⟨fun z => g175 ?_, fun z => ?_⟩⟩
        · rw [li1, nI_add, nI_eq (by omega) (by omega)] at z
          omega
        · have : ¬ q.2.2.1 (k + 1) = 0 := fun y => z (by rw [y]; rfl)
          unfold sta
          simp [this]
        · have hl0 : q.2.2.1 (k + 1) = 0 := (nI_eq (by omega) (by decide)).mp (show nI _ = nI 0 from z)
          obtain ⟨h6, -⟩ := h4 _ hp'
          have es : sta d (q.2.1 (k + 1)) (q.2.2.1 (k + 1)) = dB d (q.2.1 (k + 1)) := by
            unfold sta
            simp [hl0]
          refine ⟨_, h1, _, rfl, _, _, q.2.1 (k + 1), h5, rfl, hp', by omega, _, h5' _ hp', _, h6, fun y => g175 ?_, fun y => g171 ?_⟩
          · have y : d (11 + 34 * q.2.1 (k + 1) + 1) = nI 0 := y
            rw [hO.b hp', bI_eq0] at y
            rw [es, y]
          · have y : ¬ d (11 + 34 * q.2.1 (k + 1) + 1) = nI 0 := y
            rw [hO.b hp', bI_eq0] at y
            rw [es]
            cases h : dB d (q.2.1 (k + 1)) <;> simp_all
    · rw [if_neg hz] at h2k
      have hk1 : k = q.1 - 1 := by omega
      have e : pgN d q (fun p => cnt d p (sg p)) k 4 = 0 := if_pos hk1
      rw [e] at hP
      rw [h2k]
      refine place_e hO hB' hL' h3 ⟨_, l1, _, rfl, _, _, l3, fun _ => hP, fun z => absurd ?_ z⟩
      rw [li1, nI_add, show k + 1 = q.1 by omega]
theorem ofPage_s {k what : Nat} {Post : Int32 → Prop} (hO : OkB d) (hB : BK m b d c ps st g wd bs) (hL : LK m pl d sg q co sa ta) (h3 : ∀ p, p < dP d → sg p < 3) (hQ : PQ d sg q (lp d sg (dP d))) (hK : PlOk d q (dP d)) (hk : k < q.1) (hw : what < 5) (hP : Post (nI (pgN d q (fun p => cnt d p (sg p)) k what))) : wpX7_ofPage m b pl (nI k) (nI what) Post := by
  have hB' := hB
  have hL' := hL
  obtain ⟨h1, -, -, -, -⟩ := hB
  obtain ⟨l1, -, ft, l3, l3'⟩ := hL
  have h16 := hO.p16
  have hq := hQ.len
  have hlp := lp_480 (sg := sg) hO (dP d) (Nat.le_refl _)
  have h2k := hQ.2.1 k hk
  have key := ofPage_27 hO hB' hL' h3 hQ hK hk hw hP
  unfold wpX7_ofPage
  refine ⟨_, l1, _, rfl, _, _, l3, fun h => ⟨_, h1, ?_⟩, fun h => ⟨_, l1, _, rfl, _, _, k + 1, l3, by rw [li1, nI_add], ?_, by omega, ?_⟩⟩
  · rw [li1, nI_add, nI_leI (by omega) (by omega)] at h
    rw [if_neg (by omega)] at h2k
    rw [h2k] at key
    exact all_s hO hB' hL' h3 key
  · rcases Nat.lt_or_ge (k + 1) q.1 with z | z
    · exact z
    · exact absurd (by rw [li1, nI_add]; exact nI_le z (by omega)) h
  · have z : k + 1 < q.1 := by
      rcases Nat.lt_or_ge (k + 1) q.1 with z | z
      · exact z
      · exact absurd (by rw [li1, nI_add]; exact nI_le z (by omega)) h
    rw [if_pos z] at h2k
    rw [l3' _ z, ← h2k]
    exact key
end TEL
