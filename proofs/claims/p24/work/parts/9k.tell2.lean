/-! a whole plan, the book, a paragraph -/
section TE2
variable {m : Mu} {b pl : Nat} {d : Nat → Int32} {c ps st sa ta : Nat} {g wd : Nat → Nat} {bs : Option Nat × Option Nat × Int32} {sg : Nat → Nat} {q : Pl} {co : Int32}
def tm (d : Nat → Int32) (q : Pl) (cf : Nat → Nat) (what j k : Nat) : Nat := if what = j then termP d q cf j k else 0
theorem ofPlan_123 {k what v : Nat} {Post : Int32 → Prop} {K : Nat → Nat → Int32 → Int32 → Int32 → Prop} (hO : OkB d) (hB : BK m b d c ps st g wd bs) (hL : LK m pl d sg q co sa ta) (hQ : PQ d sg q (lp d sg (dP d))) (hK : PlOk d q (dP d)) (hk : k < q.1) (hw : what < 7) (hP : K b pl (nI what) (nI (v + tm d q (fun p => cnt d p (sg p)) what 5 k)) (nI (k + 1))) : wpX7_ofPlan_b123 m Post K b pl (nI what) (nI v) (nI k) := by
  obtain ⟨h1, -, -, -, -⟩ := hB
  obtain ⟨l1, -, ft, l3, l3'⟩ := hL
  have h16 := hO.p16
  have hq := hQ.len
  have hlp := lp_480 (sg := sg) hO (dP d) (Nat.le_refl _)
  have h2k := hQ.2.1 k hk
  obtain ⟨-, -, -, hsz⟩ := hK.2 k hk
  have h40 := hO.h40
  unfold tm at hP
  unfold wpX7_ofPlan_b123 wpX7_ofPlan_b165
  refine ⟨fun z => ?_, fun z => ⟨_, l1, _, rfl, _, _, l3, fun z2 => ?_, fun z2 => ⟨_, h1, _, l1, _, rfl, _, _, k + 1, l3, by rw [li1, nI_add], ?_, by omega, _, l1, _, rfl, _, _, k, l3, rfl, hk, by omega, ?_⟩⟩⟩
  · rw [if_neg (fun e => z (by rw [e]; rfl)), Nat.add_zero] at hP
    rw [li1, nI_add]
    exact hP
  · have e5 : what = 5 := (nI_eq (by omega) (by decide)).mp z
    rw [li1, nI_add, nI_leI (by omega) (by omega)] at z2
    rw [if_pos e5] at hP
    have e : termP d q (fun p => cnt d p (sg p)) 5 k = 0 := if_pos (by omega)
    rw [e, Nat.add_zero] at hP
    rw [li1, nI_add]
    exact hP
  · rcases Nat.lt_or_ge (k + 1) q.1 with y | y
    · exact y
    · exact absurd (by rw [li1, nI_add]; exact nI_le y (by omega)) z2
  · have y : k + 1 < q.1 := by
      rcases Nat.lt_or_ge (k + 1) q.1 with y | y
      · exact y
      · exact absurd (by rw [li1, nI_add]; exact nI_le y (by omega)) z2
    have e5 : what = 5 := (nI_eq (by omega) (by decide)).mp z
    rw [if_pos e5] at hP
    have e : termP d q (fun p => cnt d p (sg p)) 5 k = dH d - q.2.2.2 k := if_neg (by omega)
    rw [e] at hP
    rw [if_pos y] at h2k
    show K b pl (nI what) (nI v + ((d 1 - ft (k + 1)) + ft k)) (nI k + 1)
    rw [l3' _ y, l3' k hk, hO.h, i_sub_add, nI_add, sm_sub (by omega), nI_add, li1, nI_add, show dH d + fst1 d sg q k - fst1 d sg q (k + 1) = dH d - q.2.2.2 k by omega]
    exact hP
theorem ofPlan_79 {k what v : Nat} {Post : Int32 → Prop} {K : Nat → Nat → Int32 → Int32 → Int32 → Prop} (hO : OkB d) (hB : BK m b d c ps st g wd bs) (hL : LK m pl d sg q co sa ta) (hQ : PQ d sg q (lp d sg (dP d))) (hK : PlOk d q (dP d)) (hk : k < q.1) (hw : what < 7) (hP : K b pl (nI what) (nI (v + tm d q (fun p => cnt d p (sg p)) what 4 k + tm d q (fun p => cnt d p (sg p)) what 5 k)) (nI (k + 1))) : wpX7_ofPlan_b79 m Post K b pl (nI what) (nI v) (nI k) (nI (100 * q.2.1 k + q.2.2.1 k)) := by
  have hB' := hB
  obtain ⟨h1, -, ⟨qq, h5, h5'⟩, h4, -⟩ := hB
  have h16 := hO.p16
  have hq := hQ.len
  have hlp := lp_480 (sg := sg) hO (dP d) (Nat.le_refl _)
  obtain ⟨hp, hl, -⟩ := hQ.1 k hk
  have hc := cnt_le hO hp (sg (q.2.1 k))
  have go : ∀ t, t = tm d q (fun p => cnt d p (sg p)) what 4 k → wpX7_ofPlan_b121 m Post K b pl (nI what) (nI k) (nI v) (nI t) := fun t ht => by
    subst ht
    unfold wpX7_ofPlan_b121
    rw [nI_add]
    exact ofPlan_123 hO hB' hL hQ hK hk hw hP
  unfold wpX7_ofPlan_b79 wpX7_ofPlan_b120
  refine ⟨fun z => ?_, fun z => ?_⟩
  · have e : tm d q (fun p => cnt d p (sg p)) what 4 k = 0 := if_neg (fun e => z (by rw [e]; rfl))
    rw [e, Nat.add_zero] at hP
    exact ofPlan_123 hO hB' hL hQ hK hk hw hP
  · have e4 : what = 4 := (nI_eq (by omega) (by decide)).mp z
    have e : tm d q (fun p => cnt d p (sg p)) what 4 k = b2n (hgP d q k) := if_pos e4
    rw [e] at go
    have no : hgP d q k = false → wpX7_ofPlan_b121 m Post K b pl (nI what) (nI k) (nI v) 0 := fun y => go 0 (by rw [y]; rfl)
    rw [pl_mod (by omega) (by omega), pl_div (by omega) (by omega)]
    refine ⟨fun y => no ?_, fun y => ⟨fun x => no ?_, fun x => ?_⟩⟩
    · have := (nI_leI (by omega) (by decide)).mp (show nI k ≤ nI 0 from y)
      unfold hgP
      rw [if_pos this]
    · have hn : ¬ q.2.2.1 k = 0 := fun w => x (by rw [w]; rfl)
      unfold hgP isHg
      split
      · rfl
      · simp [hn]
    · have hl0 : q.2.2.1 k = 0 := (nI_eq (by omega) (by decide)).mp (show nI _ = nI 0 from x)
      have hk0 : ¬ k ≤ 0 := fun w => y (by rw [Nat.le_zero.mp w]; exact nI_le (Nat.le_refl _) (by decide))
      have hp0 := hQ.p0 (by omega) hk hl0
      have hp1 : q.2.1 k - 1 < dP d := by omega
      obtain ⟨h6, -⟩ := h4 _ hp1
      have eh : hgP d q k = dHd d (q.2.1 k - 1) := by
        unfold hgP isHg
        rw [if_neg hk0]
        simp [hl0, hp0]
      refine ⟨_, h1, _, rfl, _, _, q.2.1 k - 1, h5, by rw [li1, sm_sub hp0], hp1, by omega, _, h5' _ hp1, _, h6, fun w => no ?_, fun w => ?_⟩
      · have w : d (11 + 34 * (q.2.1 k - 1)) = nI 0 := w
        rw [hO.hd hp1, bI_eq0] at w
        rw [eh, w]
      · have w : ¬ d (11 + 34 * (q.2.1 k - 1)) = nI 0 := w
        rw [hO.hd hp1, bI_eq0] at w
        refine go 1 ?_
        rw [eh]
        cases h : dHd d (q.2.1 k - 1) <;> simp_all [b2n]
theorem ofPlan_52 {k what v : Nat} {Post : Int32 → Prop} {K : Nat → Nat → Int32 → Int32 → Int32 → Prop} (hO : OkB d) (hB : BK m b d c ps st g wd bs) (hL : LK m pl d sg q co sa ta) (hQ : PQ d sg q (lp d sg (dP d))) (hK : PlOk d q (dP d)) (hk : k < q.1) (hw : what < 7) (hP : K b pl (nI what) (nI (v + tm d q (fun p => cnt d p (sg p)) what 3 k + tm d q (fun p => cnt d p (sg p)) what 4 k + tm d q (fun p => cnt d p (sg p)) what 5 k)) (nI (k + 1))) : wpX7_ofPlan_b52 m Post K b pl (nI what) (nI v) (nI k) (nI (100 * q.2.1 k + q.2.2.1 k)) := by
  have h16 := hO.p16
  have hq := hQ.len
  have hlp := lp_480 (sg := sg) hO (dP d) (Nat.le_refl _)
  obtain ⟨hp, hl, -⟩ := hQ.1 k hk
  have hc := cnt_le hO hp (sg (q.2.1 k))
  have go : ∀ t, t = tm d q (fun p => cnt d p (sg p)) what 3 k → wpX7_ofPlan_b77 m Post K b pl (nI what) (nI k) (nI (100 * q.2.1 k + q.2.2.1 k)) (nI v) (nI t) := fun t ht => by
    subst ht
    unfold wpX7_ofPlan_b77
    rw [nI_add]
    exact ofPlan_79 hO hB hL hQ hK hk hw hP
  unfold wpX7_ofPlan_b52 wpX7_ofPlan_b76
  refine ⟨fun z => ?_, fun z => ?_⟩
  · have e : tm d q (fun p => cnt d p (sg p)) what 3 k = 0 := if_neg (fun e => z (by rw [e]; rfl))
    rw [e, Nat.add_zero] at hP
    exact ofPlan_79 hO hB hL hQ hK hk hw hP
  · have e3 : what = 3 := (nI_eq (by omega) (by decide)).mp z
    have e : tm d q (fun p => cnt d p (sg p)) what 3 k = b2n (orP q (fun p => cnt d p (sg p)) k) := if_pos e3
    rw [e] at go
    have no : orP q (fun p => cnt d p (sg p)) k = false → wpX7_ofPlan_b77 m Post K b pl (nI what) (nI k) (nI (100 * q.2.1 k + q.2.2.1 k)) (nI v) 0 := fun y => go 0 (by rw [y]; rfl)
    rw [pl_mod (by omega) (by omega)]
    refine ⟨fun y => no ?_, fun y => ⟨fun x => no ?_, fun x => go 1 ?_⟩⟩
    · have := (nI_leI (by omega) (by decide)).mp (show nI k ≤ nI 0 from y)
      unfold orP
      rw [if_pos this]
    · have hn : ¬ q.2.2.1 k = 1 := fun w => x (by rw [w]; rfl)
      unfold orP isOr
      simp [hn]
    · have hl1 : q.2.2.1 k = 1 := (nI_eq (by omega) (by decide)).mp x
      have hk0 : ¬ k ≤ 0 := fun w => y (by rw [Nat.le_zero.mp w]; exact nI_le (Nat.le_refl _) (by decide))
      have e1 : orP q (fun p => cnt d p (sg p)) k = true := by
        unfold orP isOr
        rw [if_neg hk0, if_neg (by show ¬ cnt d (q.2.1 k) (sg (q.2.1 k)) < 2; omega), if_pos hl1]
      rw [e1]
      rfl
theorem tm_sum (d : Nat → Int32) (q : Pl) (cf : Nat → Nat) {what k : Nat} (h2 : 2 ≤ what) (h6 : what < 6) : tm d q cf what 2 k + tm d q cf what 3 k + tm d q cf what 4 k + tm d q cf what 5 k = termP d q cf what k := by
  have : what = 2 ∨ what = 3 ∨ what = 4 ∨ what = 5 := by omega
  unfold tm
  rcases this with rfl | rfl | rfl | rfl <;> simp
def acc (d : Nat → Int32) (q : Pl) (cf : Nat → Nat) (what k : Nat) : Nat := sumN (fun i => tm d q cf what 2 i + tm d q cf what 3 i + tm d q cf what 4 i + tm d q cf what 5 i) k
theorem ofPlan_L {what : Nat} {Post : Int32 → Prop} (hO : OkB d) (hB : BK m b d c ps st g wd bs) (hL : LK m pl d sg q co sa ta) (h3 : ∀ p, p < dP d → sg p < 3) (hQ : PQ d sg q (lp d sg (dP d))) (hK : PlOk d q (dP d)) (hw : what < 7) (hP : Post (if what = 0 then co else if what = 1 then nI q.1 else if what = 6 then nI (lp d sg (dP d)) else nI (acc d q (fun p => cnt d p (sg p)) what q.1))) : ∀ r k : Nat, k + r = q.1 → wpX7_ofPlan_L5 m Post (r + 1) b pl (nI what) (nI (acc d q (fun p => cnt d p (sg p)) what k)) (nI k)
  | r, k, hk => by
    have hB' := hB
    have hL' := hL
    obtain ⟨h1, -, -, -, -⟩ := hB
    obtain ⟨l1, -, ft, l3, l3'⟩ := hL
    have h16 := hO.p16
    have hq := hQ.len
    have hlp := lp_480 (sg := sg) hO (dP d) (Nat.le_refl _)
    unfold wpX7_ofPlan_L5
    refine ⟨_, l1, _, rfl, _, _, l3, fun h => ?_, fun h => ?_⟩
    · have e : k = q.1 := by
        have := (nI_leI (by omega) (by omega)).mp h
        omega
      refine ⟨fun z0 => ⟨fun z1 => ⟨fun z6 => ?_, fun z6 => ⟨_, h1, all_s hO hB' hL' h3 ?_⟩⟩, fun z1 => ⟨_, l1, _, rfl, _, _, l3, ?_⟩⟩, fun z0 => ⟨_, l1, ?_⟩⟩
      · rw [if_neg (fun y => z0 (by rw [y]; rfl)), if_neg (fun y => z1 (by rw [y]; rfl)), if_neg (fun y => z6 (by rw [y]; rfl))] at hP
        rw [e]
        exact hP
      · have := (nI_eq (by omega) (by decide)).mp (show nI what = nI 6 from z6)
        subst this
        exact hP
      · have := (nI_eq (by omega) (by decide)).mp (show nI what = nI 1 from z1)
        subst this
        exact hP
      · have := (nI_eq (by omega) (by decide)).mp (show nI what = nI 0 from z0)
        subst this
        exact hP
    · have hkq : k < q.1 := by
        rcases Nat.lt_or_ge k q.1 with z | z
        · exact z
        · exact absurd (nI_le z (by omega)) h
      cases r with
      | zero => exact absurd hkq (by omega)
      | succ r =>
        have ih := ofPlan_L hO hB' hL' h3 hQ hK hw hP r (k + 1) (by omega)
        have ea : acc d q (fun p => cnt d p (sg p)) what (k + 1) = acc d q (fun p => cnt d p (sg p)) what k + tm d q (fun p => cnt d p (sg p)) what 2 k + tm d q (fun p => cnt d p (sg p)) what 3 k + tm d q (fun p => cnt d p (sg p)) what 4 k + tm d q (fun p => cnt d p (sg p)) what 5 k := by
          have e9 : acc d q (fun p => cnt d p (sg p)) what (k + 1) = acc d q (fun p => cnt d p (sg p)) what k + (tm d q (fun p => cnt d p (sg p)) what 2 k + tm d q (fun p => cnt d p (sg p)) what 3 k + tm d q (fun p => cnt d p (sg p)) what 4 k + tm d q (fun p => cnt d p (sg p)) what 5 k) := rfl
          omega
        rw [ea] at ih
        refine ⟨_, l1, _, rfl, _, _, k, l3, rfl, hkq, by omega, _, h1, ?_⟩
        rw [l3' k hkq]
        refine place_k hO hB' hL' h3 hQ hkq ⟨fun z => ?_, fun z => ⟨_, h1, ?_⟩⟩
        · have e : tm d q (fun p => cnt d p (sg p)) what 2 k = 0 := if_neg (fun y => z (by rw [y]; rfl))
          rw [e, Nat.add_zero] at ih
          exact ofPlan_52 hO hB' hL' hQ hK hkq hw ih
        · have e2 : what = 2 := (nI_eq (by omega) (by decide)).mp z
          have e : tm d q (fun p => cnt d p (sg p)) what 2 k = b2n (wdP q (fun p => cnt d p (sg p)) k) := if_pos e2
          rw [e] at ih
          refine isWidow_k hO hB' hL' h3 hQ hkq ?_
          unfold wpX7_ofPlan_b50
          cases hwd : wdP q (fun p => cnt d p (sg p)) k
          · rw [hwd] at ih
            refine ⟨fun _ => ?_, fun y => absurd rfl y⟩
            rw [li0, nI_add]
            exact ofPlan_52 hO hB' hL' hQ hK hkq hw ih
          · rw [hwd] at ih
            refine ⟨fun y => absurd y (by decide), fun _ => ?_⟩
            rw [li1, nI_add]
            exact ofPlan_52 hO hB' hL' hQ hK hkq hw ih
theorem sumN_1 : ∀ n, sumN (fun _ => 1) n = n
  | 0 => rfl
  | n + 1 => by show sumN _ n + 1 = _; rw [sumN_1 n]
theorem PQ.sizes (h : PQ d sg q (lp d sg (dP d))) : ∀ k, k < q.1 → sumN q.2.2.2 (k + 1) = fst1 d sg q k + q.2.2.2 k
  | 0, hk => by
    have := h.2.2.1 (by omega)
    show 0 + _ = _
    rw [this]
  | k + 1, hk => by
    have ih := PQ.sizes h k (by omega)
    have h2 := h.2.1 k (by omega)
    rw [if_pos hk] at h2
    show sumN q.2.2.2 (k + 1) + q.2.2.2 (k + 1) = _
    rw [ih, h2]
theorem PQ.size (h : PQ d sg q (lp d sg (dP d))) : sumN q.2.2.2 q.1 = lp d sg (dP d) := by
  rcases Nat.eq_zero_or_pos q.1 with z | z
  · rw [h.2.2.2 z, z]
    rfl
  · obtain ⟨n, hn⟩ : ∃ n, q.1 = n + 1 := ⟨q.1 - 1, by omega⟩
    have h1 := h.sizes n (by omega)
    have h2 := h.2.1 n (by omega)
    rw [if_neg (by omega)] at h2
    rw [hn, h1, h2]
theorem ofPlan_s {what : Nat} {Post : Int32 → Prop} (hO : OkB d) (hB : BK m b d c ps st g wd bs) (hL : LK m pl d sg q (nI (numP d q sg 0)) sa ta) (h3 : ∀ p, p < dP d → sg p < 3) (hQ : PQ d sg q (lp d sg (dP d))) (hK : PlOk d q (dP d)) (hw : what < 7) (hP : Post (nI (numP d q sg what))) : wpX7_ofPlan m b pl (nI what) Post := by
  have e : (if what = 0 then nI (numP d q sg 0) else if what = 1 then nI q.1 else if what = 6 then nI (lp d sg (dP d)) else nI (acc d q (fun p => cnt d p (sg p)) what q.1)) = nI (numP d q sg what) := by
    by_cases h0 : what = 0
    · rw [if_pos h0, h0]
    · rw [if_neg h0]
      have en : numP d q sg what = sumN (termP d q (fun p => cnt d p (sg p)) what) q.1 := by
        unfold numP
        rw [if_neg h0, Nat.zero_add]
      rw [en]
      by_cases h1 : what = 1
      · rw [if_pos h1, h1]
        exact congrArg nI (sumN_1 q.1).symm
      · rw [if_neg h1]
        by_cases h6 : what = 6
        · rw [if_pos h6, h6]
          exact congrArg nI hQ.size.symm
        · rw [if_neg h6]
          unfold acc
          exact congrArg nI (sumN_congr q.1 (fun k _ => tm_sum d q _ (by omega) (by omega)))
  rw [← e] at hP
  exact ⟨q.1 + 1, ofPlan_L hO hB hL h3 hQ hK hw hP q.1 0 (Nat.zero_add _)⟩
/-! the book -/
theorem told_L {what : Nat} {Post : Int32 → Prop} {qq : Nat → Option Nat} (hO : OkB d) (hB : BK m b d c ps st g wd bs) (h5 : mQ m ps = some (2, dP d, qq)) (hw : what < 13) (hP : Post (stI d what)) : ∀ r x : Nat, x + r = dP d → wpX7_told_L18 m Post (r + 1) b (nI what) (nI (sumN (dN d) x)) (nI (sumN (fun p => if dF d p = -1 then 0 else 1) x)) ps (nI (dP d)) (nI x)
  | r, x, hx => by
    have hB' := hB
    obtain ⟨h1, ⟨fc, hc, hc'⟩, ⟨q2, h5x, h5'⟩, h4, -⟩ := hB
    have h16 := hO.p16
    have hqq : q2 = qq := by
      rw [h5] at h5x
      injection h5x with h; injection h with _ h; injection h with _ h
      exact h.symm
    subst hqq
    unfold wpX7_told_L18
    refine ⟨fun h => ?_, fun h => ?_⟩
    · have e : x = dP d := by
        have := (nI_leI (by omega) (by omega)).mp h
        omega
      subst e
      unfold stI at hP
      refine ⟨fun z0 => ⟨fun z1 => ⟨fun z2 => ⟨fun z3 => ⟨fun z4 => ⟨fun z5 => ⟨fun z6 => ?_, fun z6 => ?_⟩, fun z5 => ?_⟩, fun z4 => ⟨_, h1, _, rfl, _, _, h5, ?_⟩⟩, fun z3 => ⟨_, h1, ?_⟩⟩, fun z2 => ⟨_, h1, ?_⟩⟩, fun z1 => ⟨_, h1, ?_⟩⟩, fun z0 => ⟨_, h1, ?_⟩⟩
      · have a0 : what ≠ 0 := fun y => z0 (by rw [y]; rfl)
        have a1 : what ≠ 1 := fun y => z1 (by rw [y]; rfl)
        have a2 : what ≠ 2 := fun y => z2 (by rw [y]; rfl)
        have a3 : what ≠ 3 := fun y => z3 (by rw [y]; rfl)
        have a4 : what ≠ 4 := fun y => z4 (by rw [y]; rfl)
        have a5 : what ≠ 5 := fun y => z5 (by rw [y]; rfl)
        have a6 : what ≠ 6 := fun y => z6 (by rw [y]; rfl)
        rw [if_neg a5, if_neg a6, if_neg (by omega)] at hP
        refine ⟨_, h1, _, rfl, _, _, what - 7, hc, by rw [li7, sm_sub (by omega)], by omega, by decide, ?_⟩
        rw [hc' _ (by omega)]
        exact hP
      · have := (nI_eq (by omega) (by decide)).mp (show nI what = nI 6 from z6)
        subst this
        exact hP
      · have := (nI_eq (by omega) (by decide)).mp (show nI what = nI 5 from z5)
        subst this
        exact hP
      · have := (nI_eq (by omega) (by decide)).mp (show nI what = nI 4 from z4)
        subst this
        rw [← hO.p]
        exact hP
      · have := (nI_eq (by omega) (by decide)).mp (show nI what = nI 3 from z3)
        subst this
        exact hP
      · have := (nI_eq (by omega) (by decide)).mp (show nI what = nI 2 from z2)
        subst this
        exact hP
      · have := (nI_eq (by omega) (by decide)).mp (show nI what = nI 1 from z1)
        subst this
        exact hP
      · have := (nI_eq (by omega) (by decide)).mp (show nI what = nI 0 from z0)
        subst this
        exact hP
    · have hxd : x < dP d := by
        rcases Nat.lt_or_ge x (dP d) with z | z
        · exact z
        · exact absurd (nI_le z (by omega)) h
      cases r with
      | zero => exact absurd hxd (by omega)
      | succ r =>
        obtain ⟨h6, f, h7, -⟩ := h4 x hxd
        have ih := told_L hO hB' h5 hw hP r (x + 1) (by omega)
        have e1 : sumN (dN d) (x + 1) = sumN (dN d) x + dN d x := rfl
        have e2 : sumN (fun p => if dF d p = -1 then 0 else 1) (x + 1) = sumN (fun p => if dF d p = -1 then 0 else 1) x + (if dF d x = -1 then 0 else 1) := rfl
        rw [e1, e2] at ih
        refine ⟨_, _, x, h5, rfl, hxd, by omega, _, h5' x hxd, _, h6, _, rfl, _, _, h7, _, h6, fun z => ?_, fun z => ?_⟩
        · have z : 0 ≤ dF d x := z
          have hn : ¬ dF d x = -1 := fun y => by rw [y] at z; exact absurd z (by decide)
          rw [if_neg hn] at ih
          unfold wpX7_told_b55
          rw [nI_add, li1, nI_add, nI_add]
          exact ih
        · have z : ¬ 0 ≤ dF d x := z
          have hn : dF d x = -1 := by
            rcases hO.f hxd with y | y | y | y
            · exact y
            · exact absurd (by rw [y]; decide) z
            · exact absurd (by rw [y]; decide) z
            · exact absurd (by rw [y]; decide) z
          rw [if_pos hn] at ih
          unfold wpX7_told_b55
          rw [nI_add, li0, nI_add, li1, nI_add]
          exact ih
theorem told_s {what : Nat} {Post : Int32 → Prop} (hO : OkB d) (hB : BK m b d c ps st g wd bs) (hw : what < 13) (hP : Post (stI d what)) : wpX7_told m b (nI what) Post := by
  have hB' := hB
  obtain ⟨h1, -, ⟨qq, h5, -⟩, -, -⟩ := hB
  exact ⟨_, h1, _, rfl, _, _, h5, dP d + 1, told_L hO hB' h5 hw hP (dP d) 0 (Nat.zero_add _)⟩
/-! a paragraph -/
theorem of_s {p what : Nat} {Post : Int32 → Prop} (hO : OkB d) (hB : BK m b d c ps st g wd bs) (hL : LK m pl d (sgB d) q co sa ta) (hp : p < dP d) (hw : what < 8) (hP : Post (paI d p what)) : wpX7_of m b (nI p) (nI what) pl Post := by
  have hB' := hB
  obtain ⟨h1, -, ⟨qq, h5, h5'⟩, h4, -⟩ := hB
  obtain ⟨l1, ⟨f, l2, l2'⟩, -⟩ := hL
  obtain ⟨h6, fw, h7, -⟩ := h4 p hp
  have h16 := hO.p16
  unfold wpX7_of
  refine ⟨_, h1, _, rfl, _, _, p, h5, rfl, hp, by omega, _, h5' p hp, ?_⟩
  have e0 : what = 0 ∨ what = 1 ∨ what = 2 ∨ what = 3 ∨ what = 4 ∨ what = 5 ∨ what = 6 ∨ what = 7 := by omega
  rcases e0 with rfl | rfl | rfl | rfl | rfl | rfl | rfl | rfl
  · exact ⟨fun h => absurd rfl h, fun _ => ⟨_, h6, _, rfl, _, _, h7, hP⟩⟩
  · exact ⟨fun _ => ⟨fun h => absurd h (by decide), fun _ => ⟨_, h1, many_s (s := 0) hO hB' hp (by decide) hP⟩⟩, fun h => absurd h (by decide)⟩
  · exact ⟨fun _ => ⟨fun h => absurd h (by decide), fun _ => ⟨_, h1, many_s (s := 1) hO hB' hp (by decide) hP⟩⟩, fun h => absurd h (by decide)⟩
  · exact ⟨fun _ => ⟨fun h => absurd h (by decide), fun _ => ⟨_, h1, many_s (s := 2) hO hB' hp (by decide) hP⟩⟩, fun h => absurd h (by decide)⟩
  · refine ⟨fun _ => ⟨fun _ => ⟨fun h => absurd rfl h, fun _ => ⟨_, h6, fun z => ?_, fun z => ?_⟩⟩, fun h => absurd (by decide) h⟩, fun h => absurd h (by decide)⟩
    · have z : d (11 + 34 * p) = nI 0 := z
      rw [hO.hd hp, bI_eq0] at z
      have e : paI d p 4 = bI (dHd d p) := rfl
      rw [e, z] at hP
      exact hP
    · have z : ¬ d (11 + 34 * p) = nI 0 := z
      rw [hO.hd hp, bI_eq0] at z
      have z : dHd d p = true := by cases h : dHd d p <;> simp_all
      have e : paI d p 4 = bI (dHd d p) := rfl
      rw [e, z] at hP
      exact hP
  · refine ⟨fun _ => ⟨fun _ => ⟨fun _ => ⟨fun h => absurd rfl h, fun _ => ⟨_, h6, fun z => ?_, fun z => ?_⟩⟩, fun h => absurd h (by decide)⟩, fun h => absurd (by decide) h⟩, fun h => absurd h (by decide)⟩
    · have z : d (11 + 34 * p + 1) = nI 0 := z
      rw [hO.b hp, bI_eq0] at z
      have e : paI d p 5 = bI (dB d p) := rfl
      rw [e, z] at hP
      exact hP
    · have z : ¬ d (11 + 34 * p + 1) = nI 0 := z
      rw [hO.b hp, bI_eq0] at z
      have z : dB d p = true := by cases h : dB d p <;> simp_all
      have e : paI d p 5 = bI (dB d p) := rfl
      rw [e, z] at hP
      exact hP
  · exact ⟨fun _ => ⟨fun _ => ⟨fun _ => ⟨fun _ => ⟨fun h => absurd rfl h, fun _ => ⟨_, h6, hP⟩⟩, fun h => absurd h (by decide)⟩, fun h => absurd h (by decide)⟩, fun h => absurd (by decide) h⟩, fun h => absurd h (by decide)⟩
  · refine ⟨fun _ => ⟨fun _ => ⟨fun _ => ⟨fun _ => ⟨fun _ => ⟨_, l1, _, rfl, _, _, p, l2, rfl, hp, by omega, ?_⟩, fun h => absurd h (by decide)⟩, fun h => absurd h (by decide)⟩, fun h => absurd h (by decide)⟩, fun h => absurd (by decide) h⟩, fun h => absurd h (by decide)⟩
    rw [l2' p hp]
    exact hP
end TE2
