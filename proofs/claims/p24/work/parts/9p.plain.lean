/-! THE PLAN THAT ENDS PAGES WHERE THEY MUST -/
/-- what is laid so far -/
def PZ (d : Nat → Int32) (m : Mu) (pl ch : Nat) (q : Pl) : Prop := ∃ t f, mL m pl = some (nI (pgC d q (fun p => cnt d p (sg0 p))), some ch, some t) ∧ mI m t = some (q.1, f) ∧ ∀ k, k < q.1 → f k = nI (fst1 d sg0 q k)
def exL (pl : Nat) : Nat → Nat → Prop := fun k a => k = 3 ∧ a = pl
section PLN
variable {d : Nat → Int32} {b c ps st : Nat} {g wd : Nat → Nat} {bs : Option Nat × Option Nat × Int32} {m m' : Mu} {pl ch : Nat}
theorem BK.fl (hB : BK m b d c ps st g wd bs) (h : Fx (exL pl) m m') : BK m' b d c ps st g wd bs :=
  hB.fx h (fun w => absurd w.1 (by decide)) (fun w => absurd w.1 (by decide)) (fun w => absurd w.1 (by decide)) (fun w => absurd w.1 (by decide)) (fun p hp => ⟨fun w => absurd w.1 (by decide), fun w => absurd w.1 (by decide)⟩)
theorem pl152 {cB u on la p cn l : Nat} {Post : Nat → Mu → Prop} {K21 : Mu → Nat → Nat → Nat → Nat → Int32 → Int32 → Int32 → Prop} {K80 : Mu → Nat → Nat → Nat → Nat → Int32 → Int32 → Int32 → Int32 → Int32 → Prop} {q : Pl} {x : ceL} {t : Nat} {f : Nat → Int32} (hl : mL m' pl = some (x.1, some ch, some t)) (ht : mI m' t = some (q.1, f)) (hq : q.1 ≤ 14) (hu : u + 1 ≤ cB) (hK : ∀ mu r f', Fx (exL pl) m' mu → mL mu pl = some (x.1, some ch, some r) → mI mu r = some (q.1 + 1, f') → (∀ k, k < q.1 → f' k = f k) → f' q.1 = nI la → K80 mu (u + 1) b ch pl 1 (nI (la + 1)) (nI p) (nI cn) (nI (l + 1))) : wpX7_plain_b152 cB Post K21 K80 m' u b ch pl (nI la) (nI p) (nI cn) (nI l) := by
  unfold wpX7_plain_b152
  refine ⟨_, hl, t, rfl, 1, hu, with_s (by omega) (by omega) ht (fun r f' hr h1 h2 => ⟨_, (show mL (sI m' r (q.1 + 1, f')) pl = _ from hl), fun mu25 e25 => ?_⟩)⟩
  unfold wpX7_plain_b167
  rw [li1, nI_add, nI_add]
  have f1 : Fx (exL pl) m' mu25 := (Fx.sI (Or.inr hr.1)).trans (by rw [e25]; exact Fx.sL (Or.inl ⟨rfl, rfl⟩))
  exact hK mu25 r f' f1 (by rw [e25]; exact up_s) (by rw [e25]; exact up_s) h1 h2
theorem eC_must {st : Bool} {n : Nat} (h : must d st n = true) (hn : n ≤ dH d) : eC d st n = 0 := by
  unfold must at h
  unfold eC
  split at h
  · cases h
  · split at h
    · next z =>
      rw [if_pos z]
      split at h
      · cases h
      · rw [show dH d - n = 0 by omega, Nat.zero_mul]
    · next z => rw [if_neg z]
theorem plL {cB p : Nat} {Post : Nat → Mu → Prop} {K21 : Mu → Nat → Nat → Nat → Nat → Int32 → Int32 → Int32 → Prop} (hO : OkB d) (hS : SmB d) (hB : BK m b d c ps st g wd bs) (hp : p < dP d) (hcB : 3 + lp d sg0 (p + 1) ≤ cB) (hK : ∀ mu u, Fx (exL pl) m mu → PZ d mu pl ch (lyP d sg0 (p + 1)) → u ≤ 3 + (lyP d sg0 (p + 1)).1 → onP (lyP d sg0 (p + 1)) ≤ dH d → (0 < (lyP d sg0 (p + 1)).1 → 0 < onP (lyP d sg0 (p + 1))) → K21 mu u b ch pl (nI (onP (lyP d sg0 (p + 1)))) (nI (lp d sg0 (p + 1))) (nI (p + 1))) : ∀ r l : Nat, l + r = cnt d p (sg0 p) → ∀ (u : Nat) (mu : Mu), Fx (exL pl) m mu → PZ d mu pl ch (lyL p (fun line n => must d (sta d p line) n) (lyP d sg0 p) l) → u ≤ 3 + (lyL p (fun line n => must d (sta d p line) n) (lyP d sg0 p) l).1 → (lyL p (fun line n => must d (sta d p line) n) (lyP d sg0 p) l).1 ≤ lp d sg0 p + l → onP (lyL p (fun line n => must d (sta d p line) n) (lyP d sg0 p) l) ≤ dH d → (0 < (lyL p (fun line n => must d (sta d p line) n) (lyP d sg0 p) l).1 → 0 < onP (lyL p (fun line n => must d (sta d p line) n) (lyP d sg0 p) l)) → wpX7_plain_L80 cB Post K21 (r + 1) mu u b ch pl (nI (onP (lyL p (fun line n => must d (sta d p line) n) (lyP d sg0 p) l))) (nI (lp d sg0 p + l)) (nI p) (nI (cnt d p (sg0 p))) (nI l)
  | r, l, hl, u, mu, hf, hZ, hu, hq, hon, hq0 => by
    have h16 := hO.p16
    have h40 := hO.h40
    have hlp := lp_small (sg := sg0) hO hS.2.2.2.2.1 (p + 1) (by omega)
    have hP3 := hS.1
    have hc5 := cnt_5 hS (s := sg0 p) hp
    have e1 := lp_s (d := d) (sg := sg0) p
    have B1 := hB.fl hf
    unfold wpX7_plain_L80
    refine ⟨fun z => ?_, fun z => ?_⟩
    · have e : l = cnt d p (sg0 p) := by
        have := (nI_leI (by omega) (by omega)).mp z
        omega
      subst e
      rw [li1, nI_add]
      exact hK mu u hf hZ hu hon hq0
    · have hlc : l < cnt d p (sg0 p) := by
        rcases Nat.lt_or_ge l (cnt d p (sg0 p)) with w | w
        · exact w
        · exact absurd (nI_le w (by omega)) z
      cases r with
      | zero => exact absurd hlc (by omega)
      | succ r =>
        have ih := plL (cB := cB) (Post := Post) hO hS hB hp hcB hK r (l + 1) (by omega)
        have es : lyL p (fun line n => must d (sta d p line) n) (lyP d sg0 p) (l + 1) = addL (lyL p (fun line n => must d (sta d p line) n) (lyP d sg0 p) l) p l (must d (sta d p l) (onP (lyL p (fun line n => must d (sta d p line) n) (lyP d sg0 p) l))) := rfl
        rw [es] at ih
        generalize lyL p (fun line n => must d (sta d p line) n) (lyP d sg0 p) l = q at *
        obtain ⟨t, f, z1, z2, z3⟩ := hZ
        have new : ∀ (u' : Nat) (mu' : Mu) (x : Int32), Fx (exL pl) m mu' → (must d (sta d p l) (onP q) = true ∨ q.1 = 0) → u' ≤ 3 + q.1 → mL mu' pl = some (nI (pgC d (addL q p l (must d (sta d p l) (onP q))) (fun p => cnt d p (sg0 p))), some ch, some t) → mI mu' t = some (q.1, f) → wpX7_plain_b152 cB Post K21 (wpX7_plain_L80 cB Post K21 (r + 1)) mu' u' b ch pl (nI (lp d sg0 p + l)) (nI p) (nI (cnt d p (sg0 p))) (nI l) := fun u' mu' _ f' hc hu' l' t' => by
          have ea := addL_1 (q := q) (p := p) (l := l) (e := must d (sta d p l) (onP q)) hc
          have eo : onP (addL q p l (must d (sta d p l) (onP q))) = 1 := by rw [onP_addL, if_pos hc]
          refine pl152 (on := 0) (x := (nI (pgC d (addL q p l (must d (sta d p l) (onP q))) (fun p => cnt d p (sg0 p))), some ch, some t)) l' t' (by omega) (by omega) (fun mu2 rr f2 hf2 hl2 hr2 h1 h2 => ?_)
          have := ih (u' + 1) mu2 (f'.trans hf2) ⟨rr, f2, hl2, by rw [ea]; exact hr2, fun k hk => by
            rw [ea] at hk
            by_cases w : k = q.1
            · subst w
              rw [h2, fst1_new hc]
            · rw [h1 k (by omega), fst1_old (by omega)]
              exact z3 k (by omega)⟩ (by rw [ea]; omega) (by rw [ea]; omega) (by rw [eo]; have := hO.h2; omega) (fun _ => by rw [eo]; decide)
          rw [eo] at this
          exact this
        have h129 : must d (sta d p l) (onP q) = true ∨ q.1 = 0 → wpX7_plain_b129 cB Post K21 (wpX7_plain_L80 cB Post K21 (r + 1)) mu u b ch pl (nI (onP q)) (nI (lp d sg0 p + l)) (nI p) (nI (cnt d p (sg0 p))) (nI l) := fun hc => by
          unfold wpX7_plain_b129
          refine ⟨fun w => ?_, fun w => ⟨_, z1, _, B1.1, by omega, beg_s hO B1 hp hlc (by omega) ⟨_, z1, fun mu30 e30 => ?_⟩⟩⟩
          · have w : nI (onP q) ≤ nI 0 := w
            rw [nI_leI (by omega) (by omega)] at w
            have hq00 : q.1 = 0 := by
              rcases Nat.eq_zero_or_pos q.1 with y | y
              · exact y
              · have := hq0 y; omega
            exact new u mu 0 hf hc hu (by rw [pgC_first hq00]; exact z1) z2
          · have w : ¬ nI (onP q) ≤ nI 0 := w
            rw [nI_leI (by omega) (by omega)] at w
            have hq1 : 0 < q.1 := by
              rcases Nat.eq_zero_or_pos q.1 with y | y
              · exact absurd (show onP q = 0 from if_pos y) (by omega)
              · exact y
            have hmu : must d (sta d p l) (onP q) = true := by
              rcases hc with y | y
              · exact y
              · omega
            refine new u mu30 0 (hf.trans (by rw [e30]; exact Fx.sL (Or.inl ⟨rfl, rfl⟩))) hc hu ?_ (by rw [e30]; exact z2)
            rw [pgC_next hmu hq1, eC_must hmu hon, Nat.zero_add, ← nI_add, e30]
            exact up_s
        have h110 : wpX7_plain_b110 cB Post K21 (wpX7_plain_L80 cB Post K21 (r + 1)) mu u b ch pl (nI (onP q)) (nI (lp d sg0 p + l)) (nI p) (nI (cnt d p (sg0 p))) (nI l) (bI (sta d p l)) := by
          unfold wpX7_plain_b110
          refine ⟨fun w => h129 ?_, fun w => ⟨_, B1.1, fun y => h129 (Or.inl ?_), fun y => ⟨fun x => ?_, fun x => h129 (Or.inl ?_)⟩⟩⟩
          · have w : nI (onP q) = nI 0 := w
            rw [nI_eq (by omega) (by omega)] at w
            rcases Nat.eq_zero_or_pos q.1 with y | y
            · exact Or.inr y
            · have := hq0 y; omega
          · have y : nI (onP q) = d 1 := y
            have w : ¬ nI (onP q) = nI 0 := w
            rw [nI_eq (by omega) (by omega)] at w
            rw [hO.h, nI_eq (by omega) (by omega)] at y
            unfold must
            rw [if_neg (by omega)]
            split
            · rw [if_neg (by omega)]
            · rfl
          · have y : ¬ nI (onP q) = d 1 := y
            have w : ¬ nI (onP q) = nI 0 := w
            have x : bI (sta d p l) = nI 0 := x
            rw [nI_eq (by omega) (by omega)] at w
            rw [hO.h, nI_eq (by omega) (by omega)] at y
            rw [bI_eq0] at x
            have hm : must d (sta d p l) (onP q) = false := by
              unfold must
              rw [if_neg (by omega), if_pos x, if_pos (by omega)]
            have hq1 : 0 < q.1 := by
              rcases Nat.eq_zero_or_pos q.1 with v | v
              · exact absurd (show onP q = 0 from if_pos v) w
              · exact v
            have hc : ¬ (false = true ∨ q.1 = 0) := fun v => v.elim (fun v => by cases v) (fun v => by omega)
            rw [hm] at ih
            have ea := addL_0 (p := p) (l := l) hq1
            have eo := onP_on (p := p) (c := l) hq1
            have := ih u mu hf ⟨t, f, by rw [pgC_on hc]; exact z1, by rw [ea]; exact z2, fun k hk => by rw [ea] at hk; rw [fst1_old hk]; exact z3 k hk⟩ (by rw [ea]; exact hu) (by rw [ea]; omega) (by rw [eo]; omega) (fun _ => by rw [eo]; omega)
            rw [eo] at this
            unfold wpX7_plain_b167
            rw [li1, nI_add, nI_add, nI_add]
            exact this
          · have x : ¬ bI (sta d p l) = nI 0 := x
            have w : ¬ nI (onP q) = nI 0 := w
            rw [nI_eq (by omega) (by omega)] at w
            rw [bI_eq0] at x
            unfold must
            rw [if_neg (by omega), if_neg x]
        obtain ⟨k1, -, ⟨qq, k3, k3'⟩, k4, -⟩ := B1
        obtain ⟨k5, -⟩ := k4 p hp
        refine ⟨fun w => ?_, fun w => ⟨_, k1, _, rfl, _, _, p, k3, rfl, hp, by omega, _, k3' p hp, _, k5, fun y => ?_, fun y => ?_⟩⟩
        · have hl0 : l ≠ 0 := fun y => w (by rw [y]; rfl)
          have e : sta d p l = false := by unfold sta; rw [decide_eq_false hl0]; rfl
          rw [e] at h110
          exact h110
        · have y : d (11 + 34 * p + 1) = nI 0 := y
          rw [hO.b hp, bI_eq0] at y
          have e : sta d p l = false := by unfold sta; rw [y, Bool.and_false]
          rw [e] at h110
          exact h110
        · have hl0 : l = 0 := (nI_eq (by omega) (by decide)).mp (show nI l = nI 0 from w)
          have y : ¬ d (11 + 34 * p + 1) = nI 0 := y
          rw [hO.b hp, bI_eq0] at y
          have y : dB d p = true := by cases h : dB d p <;> simp_all
          have e : sta d p l = true := by unfold sta; rw [y, decide_eq_true hl0]; rfl
          rw [e] at h110
          exact h110
theorem plP {cB : Nat} {Post : Nat → Mu → Prop} {fz : Nat → Int32} (hO : OkB d) (hS : SmB d) (hB : BK m b d c ps st g wd bs) (hch : mI m ch = some (dP d, fz)) (hz : ∀ k, k < dP d → fz k = 0) (hcB : 18 ≤ cB) (hP : ∀ mu, Fx (exL pl) m mu → PZ d mu pl ch (lyP d sg0 (dP d)) → Post pl mu) : ∀ r p : Nat, p + r = dP d → ∀ (u : Nat) (mu : Mu), Fx (exL pl) m mu → PZ d mu pl ch (lyP d sg0 p) → u ≤ 3 + (lyP d sg0 p).1 → (lyP d sg0 p).1 ≤ lp d sg0 p → onP (lyP d sg0 p) ≤ dH d → (0 < (lyP d sg0 p).1 → 0 < onP (lyP d sg0 p)) → wpX7_plain_L21 cB Post (r + 1) mu u b ch pl (nI (onP (lyP d sg0 p))) (nI (lp d sg0 p)) (nI p)
  | r, p, hp, u, mu, hf, hZ, hu, hq, hon, hq0 => by
    have h16 := hO.p16
    have hlp := lp_small (sg := sg0) hO hS.2.2.2.2.1 p (by omega)
    have hP3 := hS.1
    have B1 := hB.fl hf
    have B1' := B1
    obtain ⟨k1, -, ⟨qq, k3, k3'⟩, k4, -⟩ := B1
    have c1 := hf.I (fun w => absurd w.1 (by decide)) hch
    unfold wpX7_plain_L21
    refine ⟨_, k1, _, rfl, _, _, k3, fun z => ?_, fun z => ?_⟩
    · have e : p = dP d := by
        have := (nI_leI (by omega) (by omega)).mp z
        omega
      subst e
      exact ⟨by omega, hP mu hf hZ⟩
    · have hpd : p < dP d := by
        rcases Nat.lt_or_ge p (dP d) with w | w
        · exact w
        · exact absurd (nI_le w (by omega)) z
      cases r with
      | zero => exact absurd hpd (by omega)
      | succ r =>
        obtain ⟨t, f, z1, z2, z3⟩ := hZ
        have hlp1 := lp_small (sg := sg0) hO hS.2.2.2.2.1 (p + 1) (by omega)
        refine ⟨_, fz, p, c1, rfl, hpd, by omega, _, k1, by omega, ?_⟩
        rw [hz p hpd]
        refine many_s (s := 0) hO B1' hpd (by decide) ⟨_, z1, _, fz, p, c1, rfl, hpd, by omega, fun w => absurd (hz p hpd) w, fun _ => ?_⟩
        unfold wpX7_plain_b73
        refine ⟨_, z1, fun mu19 e19 => ⟨cnt d p 0 + 1, ?_⟩⟩
        have f19 : Fx (exL pl) m mu19 := hf.trans (by rw [e19]; exact Fx.sL (Or.inl ⟨rfl, rfl⟩))
        refine plL hO hS hB hpd (by omega) (fun mu2 u2 hf2 hZ2 hu2 a1 a2 => plP hO hS hB hch hz hcB hP r (p + 1) (by omega) u2 mu2 hf2 hZ2 hu2 (PQ_lyP (d := d) (sg := sg0) (p + 1) (by omega)).len a1 a2) (cnt d p 0) 0 (Nat.zero_add _) u mu19 f19 ⟨t, f, ?_, by rw [e19]; exact z2, z3⟩ hu hq hon hq0
        rw [e19]
        show va_up _ _ _ _ = _
        rw [up_s, Int32.add_zero]
        rfl
theorem plain_num : numP d (lyP d sg0 (dP d)) sg0 0 = pgC d (lyP d sg0 (dP d)) (fun p => cnt d p (sg0 p)) := by
  unfold numP pgC
  have e : ∀ n, sumN (fun p => sC d (sg0 p) (cnt d p (sg0 p))) n = 0 := fun n => by
    induction n with
    | zero => rfl
    | succ n ih => show sumN _ n + 0 = 0; rw [ih]
  rw [if_pos rfl, e, Nat.zero_add]
theorem plain_s {cB : Nat} {Post : Nat → Mu → Prop} {fz : Nat → Int32} (hO : OkB d) (hS : SmB d) (hB : BK m b d c ps st g wd bs) (hch : mI m ch = some (dP d, fz)) (hz : ∀ k, k < dP d → fz k = 0) (hcB : 18 ≤ cB) (hP : ∀ mu a t, Fx e0 m mu → LK mu a d sg0 (lyP d sg0 (dP d)) (nI (numP d (lyP d sg0 (dP d)) sg0 0)) ch t → Post a mu) : wpX7_plain cB m b ch Post := by
  unfold wpX7_plain
  refine ⟨by omega, fun a ha mu2 e2 => ⟨2, by omega, planI_s (x := (0, none, none)) (by decide) (by rw [e2]; exact up_s) (fun mu5 y z f5 l5 z5 b5 _ => ⟨_, l5, fun mu7 e7 => ⟨dP d + 1, ?_⟩⟩)⟩⟩
  obtain ⟨f0, z5⟩ := z5
  have f2 : Fx (exL a) m mu2 := by rw [e2]; exact Fx.sL (Or.inr ha.2.2.2.2.1)
  have f7 : Fx (exL a) m mu7 := f2.trans (f5.trans (by rw [e7]; exact Fx.sL (Or.inl ⟨rfl, rfl⟩)))
  refine plP (pl := a) (fz := fz) hO hS hB hch hz hcB (fun mu hf hZ => ?_) (dP d) 0 (Nat.zero_add _) 3 mu7 f7 ⟨z, f0, by rw [e7]; exact up_s, by rw [e7]; exact z5, fun k hk => absurd hk (Nat.not_lt_zero _)⟩ (by omega) (Nat.zero_le _) (Nat.zero_le _) (fun w => absurd w (Nat.lt_irrefl _))
  obtain ⟨t, f, l1, l2, l3⟩ := hZ
  have hch' := hf.I (fun w => absurd w.1 (by decide)) hch
  refine hP mu a t (hf.less (fun k x w => Or.inr (by rw [w.2]; exact ha))) ⟨by rw [plain_num]; exact l1, ⟨fz, hch', fun p hp => hz p hp⟩, ⟨f, l2, l3⟩⟩
/-- plan(false) -/
theorem planF_s {cB : Nat} {Post : Nat → Mu → Prop} (hO : OkB d) (hS : SmB d) (hB : BK m b d c ps st g wd bs) (hcB : 19 ≤ cB) (hP : ∀ mu a ch t, Fx e0 m mu → LK mu a d sg0 (lyP d sg0 (dP d)) (nI (numP d (lyP d sg0 (dP d)) sg0 0)) ch t → Post a mu) : wpX7_plan cB m b 0 Post := by
  have hB' := hB
  obtain ⟨k1, -, ⟨qq, k3, -⟩, -, -⟩ := hB
  have h16 := hO.p16
  have hP3 := hS.1
  unfold wpX7_plan
  refine ⟨fun _ => ⟨_, k1, _, rfl, _, _, k3, dP d, rfl, by omega, by omega, fun ch hch mu4 e4 => ?_⟩, fun w => absurd rfl w⟩
  have f4 : Fx e0 m mu4 := by rw [e4]; exact Fx.sI (Or.inr hch.1)
  have B4 : BK mu4 b d c ps st g wd bs := hB'.fx f4 (fun w => w) (fun w => w) (fun w => w) (fun w => w) (fun p hp => ⟨fun w => w, fun w => w⟩)
  refine ⟨_, B4.1, 18, by omega, plain_s (fz := fun _ => 0) hO hS B4 (by rw [e4]; exact up_s) (fun _ _ => rfl) (Nat.le_refl _) (fun mu a t hf hL => ⟨by omega, hP mu a ch t (f4.trans hf) hL⟩)⟩
end PLN
