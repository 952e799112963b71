/-! THE LAW'S SEARCH: paragraph by paragraph; a cheaper plan is kept; the best plan -/
section SRC2
variable {d : Nat → Int32} {b c ps st : Nat} {g wd : Nat → Nat} {sa : Nat} {m m' : Mu}
theorem sC_39 (hS : SmB d) {s cn : Nat} (hs : s < 3) : sC d s cn ≤ 39 * cn := by
  unfold sC
  split
  · omega
  · have := hS.2.2.2.1 (s - 1) (by omega)
    rw [Nat.mul_comm 39]
    exact Nat.mul_le_mul_left _ this
/-- the settings of a paragraph -/
theorem sets_s {n cB p j co la : Nat} {Post : Mu → Prop} {sg : Nat → Nat} {q : Pl} {B : Option (Nat × Ch)} (hO : OkB d) (hS : SmB d) (hE : ENV d c st wd sa) (hp : p + (j + 1) = dP d) (IH : ∀ i, LCl d b c ps st g wd sa p j i) (hn : 7 * j + 7 ≤ n) (hq1 : ∀ k, k < q.1 → q.2.1 k < p) (hq : 0 < p → 0 < q.1) (hon0 : 0 < q.1 → 0 < onP q) (hon : onP q ≤ dH d) (hlen : q.1 ≤ la) (hla : la = lp d sg p) (hco : co ≤ 234 * la) (hP : ∀ m', Fx (exS b sa st) m m' → SR m' d b c ps st g wd sa p sg q (bsF d j co B (sg, q) 3) → Post m') : ∀ r k : Nat, k + r = 3 → ∀ (u : Nat) (me : Mu), Fx (exS b sa st) m me → SR me d b c ps st g wd sa p sg q (bsF d j co B (sg, q) k) → u + 5 * (pot (bsF d j co B (sg, q) k) - pot (bsF d j co B (sg, q) 3)) ≤ cB → wpX7_paragraph_L118 (wpG n).1 (wpG n).2 cB Post (r + 1) me u b (nI p) (nI la) (nI (onP q)) (nI co) (nI k)
  | r, k, hk, u, me, fk, hR, hcB => by
    have hpd : p < dP d := by omega
    have hpe : dP d - (j + 1) = p := by omega
    have h16 := hO.p16
    have hR' := hR
    obtain ⟨bst, nn, hB, hnn, ⟨fs, hs, hs'⟩, ⟨ft, ht, ht'⟩, hBR⟩ := hR
    have hB' := hB
    obtain ⟨h1, ⟨fc, hc1, hc1'⟩, ⟨qq, h3, h3'⟩, h4, -⟩ := hB
    obtain ⟨h5, -⟩ := h4 p hpd
    unfold wpX7_paragraph_L118
    refine ⟨fun z => ?_, fun z => ?_⟩
    · have e : k = 3 := by
        have := (nI_leI (by decide) (by omega)).mp (show nI 3 ≤ nI k from z)
        omega
      subst e
      exact ⟨by omega, hP me fk hR'⟩
    · have hk3 : k < 3 := by
        rcases Nat.lt_or_ge k 3 with w | w
        · exact w
        · exact absurd (show nI 3 ≤ nI k from nI_le w (by omega)) z
      cases r with
      | zero => exact absurd hk (by omega)
      | succ r =>
        have l1 := pot_bs1 (d := d) (j := j) (co := co) (B := B) (x := (sg, q)) k
        have l3 : pot (bsF d j co B (sg, q) 3) ≤ pot (bsF d j co B (sg, q) (k + 1)) := by
          have := pot_bs (d := d) (j := j) (co := co) (B := B) (x := (sg, q)) (k + 1) (2 - k)
          rw [show k + 1 + (2 - k) = 3 by omega] at this
          exact this
        have nxt : ∀ u' me', Fx (exS b sa st) m me' → SR me' d b c ps st g wd sa p sg q (bsF d j co B (sg, q) (k + 1)) → u' + 5 * (pot (bsF d j co B (sg, q) (k + 1)) - pot (bsF d j co B (sg, q) 3)) ≤ cB → wpX7_paragraph_b204 (wpG n).1 (wpG n).2 cB Post (wpX7_paragraph_L118 (wpG n).1 (wpG n).2 cB Post (r + 1)) me' u' b (nI p) (nI la) (nI (onP q)) (nI co) (nI k) := fun u' me' f R h => by
          unfold wpX7_paragraph_b204
          rw [li1, nI_add]
          exact sets_s hO hS hE hp IH hn hq1 hq hon0 hon hlen hla hco hP r (k + 1) (by omega) u' me' f R h
        have yes : dF d p = -1 ∨ dF d p = nI k → wpX7_paragraph_b153 (wpG n).1 (wpG n).2 cB Post (wpX7_paragraph_L118 (wpG n).1 (wpG n).2 cB Post (r + 1)) me u b (nI p) (nI la) (nI (onP q)) (nI co) (nI k) := fun w => by
          have eb : bsF d j co B (sg, q) (k + 1) = tgL d p (cnt d p k) j (cnt d p k) (upN sg p k) (bsF d j co B (sg, q) k) (co + sC d k (cnt d p k)) q := by
            show (if dF d (dP d - (j + 1)) = -1 ∨ dF d (dP d - (j + 1)) = nI k then upB (bsF d j co B (sg, q) k) (co + cS d (dP d - (j + 1)) (VR d j) k (onP q)) (cnP d j (xS d (dP d - (j + 1)) (VR d j) k (sg, q))) else _) = _
            rw [hpe, if_pos w]
            unfold tgL cS xS
            rw [Nat.add_assoc]
          rw [eb] at l1 l3 nxt
          have hc5 := cnt_5 hS (s := k) hpd
          have hlp := lp_small (sg := sg) hO hS.2.2.2.2.1 p (by omega)
          have hP3 := hS.1
          have hsC := sC_39 hS (s := k) (cn := cnt d p k) hk3
          have esg : cnt d p (upN sg p k p) = cnt d p k := by rw [upN_s]
          unfold wpX7_paragraph_b153
          refine ⟨_, h1, sa, rfl, _, fs, p, hs, rfl, hpd, by omega, fun mu9 e9 => ?_⟩
          have f9 : Fx (exS b sa st) me mu9 := by rw [e9]; exact Fx.sI (Or.inl exS_sa)
          have b9 : mB mu9 b = some (d 0, d 1, d 2, d 3, some c, some ps, bst, some sa, some st, nn) := by rw [e9]; exact h1
          have s9 : mI mu9 sa = some (dP d, upd fs p (nI k)) := by rw [e9]; exact up_s
          have t9 : mI mu9 st = some (99, ft) := by rw [e9]; exact up_k (fun x => hE.2.2.1 x.symm) ht
          have B9 := hB'.upS (bs' := (bst, some sa, nn)) hE f9 b9 ⟨_, t9⟩
          have R9 : SR mu9 d b c ps st g wd sa (p + 1) (upN sg p k) q (bsF d j co B (sg, q) k) := by
            refine ⟨bst, nn, B9, hnn, ⟨_, s9, fun x hx => ?_⟩, ⟨ft, t9, fun x hx => ?_⟩, hBR.fx f9⟩
            · by_cases y : x = p
              · rw [y, pk_us, upN_s]
              · rw [pk_un y, upN_n y]
                exact hs' x (by omega)
            · rw [fst1_up (Nat.le_of_lt (hq1 x hx))]
              exact ht' x hx
          have key : wpX7_paragraph_b200 (wpG n).1 (wpG n).2 cB Post (wpX7_paragraph_L118 (wpG n).1 (wpG n).2 cB Post (r + 1)) mu9 u b (nI p) (nI la) (nI (onP q)) (nI co) (nI k) b (nI p) 0 (nI (cnt d p k)) (nI la) (nI (onP q)) (nI co) (nI (sC d k (cnt d p k))) := by
            unfold wpX7_paragraph_b200
            refine ⟨_, b9, 5 * (pot (bsF d j co B (sg, q) k) - pot (tgL d p (cnt d p k) j (cnt d p k) (upN sg p k) (bsF d j co B (sg, q) k) (co + sC d k (cnt d p k)) q)), by omega, ?_⟩
            have ih := IH (cnt d p k) n (5 * (pot (bsF d j co B (sg, q) k) - pot (tgL d p (cnt d p k) j (cnt d p k) (upN sg p k) (bsF d j co B (sg, q) k) (co + sC d k (cnt d p k)) q))) mu9 (fun mu17 => wpX7_paragraph_b204 (wpG n).1 (wpG n).2 cB Post (wpX7_paragraph_L118 (wpG n).1 (wpG n).2 cB Post (r + 1)) mu17 (u + 5 * (pot (bsF d j co B (sg, q) k) - pot (tgL d p (cnt d p k) j (cnt d p k) (upN sg p k) (bsF d j co B (sg, q) k) (co + sC d k (cnt d p k)) q))) b (nI p) (nI la) (nI (onP q)) (nI co) (nI k)) (upN sg p k) q (cnt d p k) (co + sC d k (cnt d p k)) la (bsF d j co B (sg, q) k) esg.symm (Nat.le_refl _) (by omega) R9 (fun x hx => Nat.lt_succ_of_lt (hq1 x hx)) (fun y => hq (by omega)) hon0 hon hlen (by rw [lp_up (Nat.le_refl p)]; omega) (by rw [lp_up (Nat.le_refl p)]; omega) (Nat.le_refl _) (fun m17 f17 R17 => ?_)
            · rw [Nat.sub_self, ← nI_add] at ih
              exact ih
            · obtain ⟨bst2, n2, hB2, hnn2, ⟨fs2, hs2, hs2'⟩, ⟨ft2, ht2, ht2'⟩, hBR2⟩ := R17
              refine nxt _ m17 (fk.trans (f9.trans f17)) ⟨bst2, n2, hB2, hnn2, ⟨fs2, hs2, fun x hx => ?_⟩, ⟨ft2, ht2, fun x hx => ?_⟩, hBR2⟩ (by omega)
              · rw [hs2' x (by omega), upN_n (by omega)]
              · rw [ht2' x hx, fst1_up (Nat.le_of_lt (hq1 x hx))]
          refine ⟨_, b9, by omega, many_s hO B9 hpd hk3 ⟨fun y => ?_, fun y => ?_⟩⟩
          · have hk0 : k ≠ 0 := fun x => y (by rw [x]; rfl)
            refine ⟨_, b9, _, rfl, 6, fc, k - 1, f9.I (exS_I hE.1 hE.2.1) hc1, by rw [li1, sm_sub (by omega)], by omega, by decide, ?_⟩
            have eC : nI (cnt d p k) * fc (k - 1) = nI (sC d k (cnt d p k)) := by
              rw [hc1' (k - 1) (by omega), hO.c (k := k - 1) (by omega), pk_mul]
              unfold sC
              rw [if_neg hk0]
            rw [eC]
            exact key
          · have hk0 : k = 0 := (nI_eq (by omega) (by decide)).mp (show nI k = nI 0 from y)
            have eC : sC d k (cnt d p k) = 0 := if_pos hk0
            rw [eC] at key
            exact key
        refine ⟨_, h1, _, rfl, _, _, p, h3, rfl, hpd, by omega, _, h3' p hpd, _, h5, fun y => yes (Or.inl ?_), fun y => ⟨_, h1, _, rfl, _, _, p, h3, rfl, hpd, by omega, _, h3' p hpd, _, h5, fun x => yes (Or.inr x), fun x => ?_⟩⟩
        · have y : dF d p < 0 := y
          rcases hO.f hpd with w | w | w | w
          · exact w
          · rw [w] at y; exact absurd y (by decide)
          · rw [w] at y; exact absurd y (by decide)
          · rw [w] at y; exact absurd y (by decide)
        · have y : ¬ dF d p < 0 := y
          have x : ¬ dF d p = nI k := x
          have hn1 : ¬ (dF d p = -1 ∨ dF d p = nI k) := fun w => w.elim (fun w => y (by rw [w]; decide)) x
          have eb : bsF d j co B (sg, q) (k + 1) = bsF d j co B (sg, q) k := by
            show (if dF d (dP d - (j + 1)) = -1 ∨ dF d (dP d - (j + 1)) = nI k then _ else _) = _
            rw [hpe, if_neg hn1]
          rw [eb] at nxt
          exact nxt u me fk hR' hcB
/-- a plan is kept -/
theorem leaf_L {WP : Nat → Mu → Nat → Int32 → Int32 → Int32 → Int32 → (Mu → Prop) → Prop} {WL : Nat → Mu → Nat → Int32 → Int32 → Int32 → Int32 → Int32 → Int32 → (Mu → Prop) → Prop} {cB u N t pl : Nat} {M0 : Mu} {Post : Mu → Prop} {x : ceB} {y : ceL} {f : Nat → Int32} (hb : mB M0 b = some x) (x1 : x.2.2.2.2.2.2.1 = some pl) (x2 : x.2.2.2.2.2.2.2.2.1 = some st) (x3 : x.2.2.2.2.2.2.2.2.2 = nI N) (hN : N ≤ 99) (hl : mL M0 pl = some y) (y1 : y.2.2 = some t) (hs : mI M0 st = some (99, f)) (hts : st ≠ t) (hu : u ≤ cB) (hP : ∀ f', (∀ k, k < N → f' k = f k) → Post (sI M0 t (N, f'))) : ∀ r k : Nat, k + r = N → ∀ fk : Nat → Int32, (∀ i, i < k → fk i = f i) → wpX7_paragraph_L82 WP WL cB Post (r + 1) (sI M0 t (N, fk)) u b (nI k)
  | r, k, hk, fk, hf => by
    have s1 : mI (sI M0 t (N, fk)) st = some (99, f) := up_k hts hs
    have t1 : mI (sI M0 t (N, fk)) t = some (N, fk) := up_s
    have b1 : mB (sI M0 t (N, fk)) b = some x := hb
    have p1 : mL (sI M0 t (N, fk)) pl = some y := hl
    unfold wpX7_paragraph_L82
    refine ⟨_, b1, fun z => ?_, fun z => ?_⟩
    · rw [x3] at z
      have e : k = N := by
        have := (nI_leI (by omega) (by omega)).mp z
        omega
      subst e
      exact ⟨hu, hP fk hf⟩
    · rw [x3] at z
      have hkN : k < N := by
        rcases Nat.lt_or_ge k N with w | w
        · exact w
        · exact absurd (nI_le w (by omega)) z
      cases r with
      | zero => exact absurd hkN (by omega)
      | succ r =>
        refine ⟨_, b1, _, x1, _, p1, _, y1, _, b1, _, x2, 99, f, k, s1, rfl, by omega, by decide, N, fk, k, t1, rfl, hkN, by omega, fun mu49 e49 => ?_⟩
        have e8 : mu49 = sI M0 t (N, upd fk k (f k)) := by
          rw [e49]
          show (va_up (va_up M0.1 t _) t _, _) = _
          rw [up_up]
        rw [e8, li1, nI_add]
        refine leaf_L hb x1 x2 x3 hN hl y1 hs hts hu hP r (k + 1) (by omega) _ (fun i hi => ?_)
        by_cases w : i = k
        · subst w; exact pk_us
        · exact (pk_un w).trans (hf i (by omega))
theorem leaf_s {n cB co la : Nat} {Post : Mu → Prop} {sg : Nat → Nat} {q : Pl} {B : Option (Nat × Ch)} (hO : OkB d) (hS : SmB d) (hE : ENV d c st wd sa) (hR : SR m d b c ps st g wd sa (dP d) sg q B) (hq : 0 < dP d → 0 < q.1) (hlen : q.1 ≤ la) (hla : la = lp d sg (dP d)) (hco : co ≤ 234 * la) (hB5 : ∀ y, B = some y → co < y.1) (hcB : 5 * (pot B - pot (upB B co (sg, q))) ≤ cB) (hP : ∀ m', Fx (exS b sa st) m m' → SR m' d b c ps st g wd sa (dP d) sg q (upB B co (sg, q)) → Post m') : wpX7_paragraph_b20 (wpG n).1 (wpG n).2 cB Post m 0 b (nI (dP d)) (nI la) (nI (onP q)) (nI co) := by
  have hR' := hR
  obtain ⟨bst, nn, hB, hnn, ⟨fs, hs, hs'⟩, ⟨ft, ht, ht'⟩, hBR⟩ := hR
  have hB' := hB
  obtain ⟨h1, -, ⟨qq, h3, h3'⟩, -, -⟩ := hB
  have h16 := hO.p16
  have hP3 := hS.1
  have hlp := lp_small (sg := sg) hO hS.2.2.2.2.1 (dP d) (Nat.le_refl _)
  have enn : nn = nI q.1 := hnn (by
    rcases Nat.eq_zero_or_pos (dP d) with w | w
    · exact Or.inr w
    · exact Or.inl (hq w))
  subst enn
  have eU : upB B co (sg, q) = some (co, (sg, q)) := by
    cases B with
    | none => rfl
    | some y => exact if_pos (hB5 y rfl)
  have e5 : 5 ≤ cB := by
    rw [eU] at hcB
    have e1 : pot (some (co, (sg, q))) = co := if_pos (show co < 3511 by omega)
    rw [e1] at hcB
    cases B with
    | none =>
      have : pot none = 3511 := rfl
      omega
    | some y =>
      have := hB5 y rfl
      have h9 : pot (some y) = if y.1 < 3511 then y.1 else 3511 := rfl
      split at h9 <;> omega
  rw [eU] at hP
  unfold wpX7_paragraph_b20
  refine ⟨_, h1, _, rfl, _, _, h3, fun z => absurd rfl z, fun _ => ⟨by omega, fun pl hpl mu22 e22 => ⟨2, by omega, planI_s (x := (0, none, none)) (by decide) (by rw [e22]; exact up_s) (fun mu25 y z f25 l25 _ bb25 _ => ?_)⟩⟩⟩
  have f22 : Fx (fun t a => exS b sa st t a ∨ (t = 3 ∧ a = pl)) m mu22 := by rw [e22]; exact Fx.sL (Or.inr hpl.2.2.2.2.1)
  have f25 : Fx (fun t a => exS b sa st t a ∨ (t = 3 ∧ a = pl)) m mu25 := f22.trans (f25.mono (fun t a w => Or.inr w))
  have b25 : mB mu25 b = some (d 0, d 1, d 2, d 3, some c, some ps, bst, some sa, some st, nI q.1) := by rw [bb25, e22]; exact h1
  refine ⟨_, b25, fun mu27 e27 => ?_⟩
  have f27 : Fx (fun t a => exS b sa st t a ∨ (t = 3 ∧ a = pl)) m mu27 := f25.trans (by rw [e27]; exact Fx.sB (Or.inl (Or.inl exS_b)))
  have b27 : mB mu27 b = some (d 0, d 1, d 2, d 3, some c, some ps, some pl, some sa, some st, nI q.1) := by rw [e27]; exact up_s
  have l27 : mL mu27 pl = some (0, some y, some z) := by rw [e27]; exact l25
  refine ⟨_, b27, _, rfl, _, l27, fun mu30 e30 => ?_⟩
  have f30 : Fx (fun t a => exS b sa st t a ∨ (t = 3 ∧ a = pl)) m mu30 := f27.trans (by rw [e30]; exact Fx.sL (Or.inl (Or.inr ⟨rfl, rfl⟩)))
  have b30 : mB mu30 b = some (d 0, d 1, d 2, d 3, some c, some ps, some pl, some sa, some st, nI q.1) := by rw [e30]; exact b27
  have l30 : mL mu30 pl = some (nI co, some y, some z) := by rw [e30]; exact up_s
  have hm30 : mI mu30 = mI mu25 := by rw [e30]; show mI mu27 = _; rw [e27]
  have hne : ∀ {a : Nat} {x : ceI}, mI m a = some x → a = sa ∨ a = st → mI mu30 a = some x := by
    intro a x hx ha
    have e1 : mI mu22 a = some x := by rw [e22]; exact hx
    have e2 : ¬ (fun t k => t = 3 ∧ k = pl) 0 a := fun w => absurd w.1 (by decide)
    rw [hm30]
    exact (show Fx (fun t k => t = 3 ∧ k = pl) mu22 mu25 from by assumption).I e2 e1
  have s30 := hne hs (Or.inl rfl)
  have t30 := hne ht (Or.inr rfl)
  refine ⟨_, b30, _, rfl, _, b30, _, rfl, _, _, s30, by omega, by omega, fun a33 h33 mu34 e34 => ?_⟩
  have n33s : sa ≠ a33 := fun w => by rw [← w] at h33; have := h33.1; rw [s30] at this; cases this
  have n33t : st ≠ a33 := fun w => by rw [← w] at h33; have := h33.1; rw [t30] at this; cases this
  have f34 : Fx (fun t a => exS b sa st t a ∨ (t = 3 ∧ a = pl)) m mu34 := f30.trans (by rw [e34]; exact Fx.sI (Or.inr h33.1))
  have b34 : mB mu34 b = some (d 0, d 1, d 2, d 3, some c, some ps, some pl, some sa, some st, nI q.1) := by rw [e34]; exact b30
  have l34 : mL mu34 pl = some (nI co, some y, some z) := by rw [e34]; exact l30
  have s34 : mI mu34 sa = some (dP d, fs) := by rw [e34]; exact up_k n33s s30
  have t34 : mI mu34 st = some (99, ft) := by rw [e34]; exact up_k n33t t30
  have a34 : mI mu34 a33 = some (dP d, fs) := by rw [e34]; exact up_s
  refine ⟨_, l34, fun mu36 e36 => ?_⟩
  have f36 : Fx (fun t a => exS b sa st t a ∨ (t = 3 ∧ a = pl)) m mu36 := f34.trans (by rw [e36]; exact Fx.sL (Or.inl (Or.inr ⟨rfl, rfl⟩)))
  have b36 : mB mu36 b = some (d 0, d 1, d 2, d 3, some c, some ps, some pl, some sa, some st, nI q.1) := by rw [e36]; exact b34
  have l36 : mL mu36 pl = some (nI co, some a33, some z) := by rw [e36]; exact up_s
  have s36 : mI mu36 sa = some (dP d, fs) := by rw [e36]; exact s34
  have t36 : mI mu36 st = some (99, ft) := by rw [e36]; exact t34
  have a36 : mI mu36 a33 = some (dP d, fs) := by rw [e36]; exact a34
  refine ⟨_, b36, _, rfl, _, b36, q.1, rfl, by omega, by omega, fun a39 h39 mu40 e40 => ?_⟩
  have n39s : sa ≠ a39 := fun w => by rw [← w] at h39; have := h39.1; rw [s36] at this; cases this
  have n39t : st ≠ a39 := fun w => by rw [← w] at h39; have := h39.1; rw [t36] at this; cases this
  have n39a : a33 ≠ a39 := fun w => by rw [← w] at h39; have := h39.1; rw [a36] at this; cases this
  refine ⟨_, (show mL mu40 pl = some (nI co, some a33, some z) by rw [e40]; exact l36), fun mu42 e42 => ⟨q.1 + 1, ?_⟩⟩
  have fM : Fx (fun t a => exS b sa st t a ∨ (t = 3 ∧ a = pl)) m (sL mu36 pl (nI co, some a33, some a39)) := f36.trans (Fx.sL (Or.inl (Or.inr ⟨rfl, rfl⟩)))
  have lM : mL (sL mu36 pl (nI co, some a33, some a39)) pl = some (nI co, some a33, some a39) := up_s
  have e43 : mu42 = sI (sL mu36 pl (nI co, some a33, some a39)) a39 (q.1, fun _ => 0) := by rw [e42, e40]
  rw [e43]
  refine leaf_L (M0 := sL mu36 pl (nI co, some a33, some a39)) (st := st) (pl := pl) (t := a39) (N := q.1) (f := ft) (x := (d 0, d 1, d 2, d 3, some c, some ps, some pl, some sa, some st, nI q.1)) b36 rfl rfl rfl (by omega) lM rfl t36 n39t (by omega) (fun f' hf' => ?_) q.1 0 (Nat.zero_add _) _ (fun i hi => absurd hi (Nat.not_lt_zero _))
  have fF : Fx (exS b sa st) m (sI (sL mu36 pl (nI co, some a33, some a39)) a39 (q.1, f')) := (fM.trans (Fx.sI (Or.inr h39.1))).less (fun t a w => w.elim Or.inl (fun w => Or.inr (by rw [w.2]; exact hpl)))
  have sF : mI (sI (sL mu36 pl (nI co, some a33, some a39)) a39 (q.1, f')) sa = some (dP d, fs) := up_k n39s s36
  have tF : mI (sI (sL mu36 pl (nI co, some a33, some a39)) a39 (q.1, f')) st = some (99, ft) := up_k n39t t36
  refine hP _ fF ⟨some pl, nI q.1, hB'.upS (bs' := (some pl, some sa, nI q.1)) hE fF b36 ⟨_, tF⟩, fun _ => rfl, ⟨fs, sF, hs'⟩, ⟨ft, tF, ht'⟩, ?_⟩
  refine ⟨pl, a33, a39, rfl, ⟨lM, ⟨fs, up_k n39a a36, hs'⟩, ⟨f', up_s, fun k hk => ?_⟩⟩, n33s.symm, n33t.symm, n39s.symm, n39t.symm, by show co ≤ 3510; omega⟩
  rw [hf' k hk]
  exact ht' k hk
theorem PC_s (hO : OkB d) (hS : SmB d) (hE : ENV d c st wd sa) : ∀ j p : Nat, p + j = dP d → PCl d b c ps st g wd sa p j
  | j, p, hp => by
    intro n cB m Post sg q co la B hn hR hq1 hq hon0 hon hlen hla hco hcB hP
    cases n with
    | zero => exact absurd hn (by omega)
    | succ n =>
      have hlp := lp_small (sg := sg) hO hS.2.2.2.2.1 p (by omega)
      have hP3 := hS.1
      have key : (∀ y, B = some y → co < y.1) → wpX7_paragraph_b20 (wpG n).1 (wpG n).2 cB Post m 0 b (nI p) (nI la) (nI (onP q)) (nI co) := fun h5 => by
        cases j with
        | zero =>
          have e : p = dP d := by omega
          subst e
          exact leaf_s hO hS hE hR hq hlen hla hco h5 hcB hP
        | succ j =>
          have hj : dP d - (j + 1) = p := by omega
          have hR' := hR
          obtain ⟨bst, nn, hB, -⟩ := hR
          obtain ⟨h1, -, ⟨qq, h3, -⟩, -, -⟩ := hB
          have e3 := bs_3 (d := d) (j := j) (co := co) (B := B) (x := (sg, q)) hO (by omega)
          unfold wpX7_paragraph_b20
          refine ⟨_, h1, _, rfl, _, _, h3, fun _ => ⟨4, ?_⟩, fun z => absurd ((nI_eq (by omega) (by omega)).mp z) (by omega)⟩
          exact sets_s hO hS hE hp (LC_s hO hS hE hp (PC_s hO hS hE j (p + 1) (by omega))) (by omega) hq1 hq hon0 hon hlen hla hco (fun m' f R => hP m' f (by rw [e3] at R; exact R)) 3 0 (Nat.zero_add _) 0 m Fx.rf hR' (by rw [e3, Nat.zero_add]; exact hcB)
      have hR' := hR
      obtain ⟨bst, nn, hB, -, -, -, hBR⟩ := hR
      have h1 := hB.1
      show wpX7_paragraph_R (wpG n).1 (wpG n).2 cB m b (nI p) (nI la) (nI (onP q)) (nI co) Post
      unfold wpX7_paragraph_R
      refine ⟨_, h1, fun z => key (fun y hy => ?_), fun z => ?_⟩
      · subst hy
        obtain ⟨pl, s, t, k1, -⟩ := hBR
        have z : bst = none := z
        rw [k1] at z
        cases z
      · cases B with
        | none => exact absurd hBR z
        | some y =>
          obtain ⟨pl, s, t, k1, k2, k3, k4, k5, k6, k7⟩ := hBR
          refine ⟨_, h1, pl, k1, _, k2.1, fun x => key (fun y' hy' => ?_), fun x => ⟨by omega, ?_⟩⟩
          · injection hy' with hy'
            subst hy'
            exact (nI_ltI (by omega) (by omega)).mp x
          · have hx : ¬ co < y.1 := fun w => x ((nI_ltI (by omega) (by omega)).mpr w)
            have e : upB (some y) (co + VR d j (onP q)) (cnP d j (sg, q)) = some y := if_neg (by omega)
            rw [e] at hP
            exact hP m Fx.rf hR'
/-- the book's rows apart -/
theorem best_s {cB : Nat} {Post : Nat → Mu → Prop} {bs : Option Nat × Option Nat × Int32} (hO : OkB d) (hS : SmB d) (hB : BK m b d c ps st g wd bs) (hc : c ≠ st) (hw : ∀ p, p < dP d → wd p ≠ st) (hcB : 1 + 5 * 3511 ≤ cB) (hP : ∀ m' pl sa s t bs', Fx (fun k a => (k = 2 ∧ a = b) ∨ (k = 0 ∧ a = st)) m m' → BK m' b d c ps st g wd bs' → LK m' pl d (sgB d) (lyB d (dP d)) (nI (VR d (dP d) 0)) s t → s ≠ st → t ≠ st → frM m sa → Post pl m') : wpX7_best cB m b Post := by
  have hB' := hB
  obtain ⟨h1, ⟨fc, hc1, hc1'⟩, ⟨qq, h3, h3'⟩, h4, ft, ht⟩ := hB
  have h16 := hO.p16
  have hP3 := hS.1
  unfold wpX7_best
  refine ⟨_, h1, fun mu2 e2 => ?_⟩
  have b2 : mB mu2 b = some (d 0, d 1, d 2, d 3, some c, some ps, none, bs.2.1, some st, bs.2.2) := by rw [e2]; exact up_s
  have f2 : Fx (fun k a => (k = 2 ∧ a = b) ∨ (k = 0 ∧ a = st)) m mu2 := by rw [e2]; exact Fx.sB (Or.inl (Or.inl ⟨rfl, rfl⟩))
  refine ⟨_, b2, _, rfl, _, _, (show mQ mu2 ps = some (2, dP d, qq) by rw [e2]; exact h3), dP d, rfl, by omega, by omega, fun sa hsa mu6 e6 => ?_⟩
  have hsaI : mI m sa = none := by have := hsa.1; rw [e2] at this; exact this
  have f6 : Fx (fun k a => (k = 2 ∧ a = b) ∨ (k = 0 ∧ a = st)) m mu6 := f2.trans (by rw [e6]; exact Fx.sI (Or.inr hsa.1))
  have b6 : mB mu6 b = some (d 0, d 1, d 2, d 3, some c, some ps, none, bs.2.1, some st, bs.2.2) := by rw [e6]; exact b2
  refine ⟨_, b6, fun mu8 e8 => ?_⟩
  have f8 : Fx (fun k a => (k = 2 ∧ a = b) ∨ (k = 0 ∧ a = st)) m mu8 := f6.trans (by rw [e8]; exact Fx.sB (Or.inl (Or.inl ⟨rfl, rfl⟩)))
  have b8 : mB mu8 b = some (d 0, d 1, d 2, d 3, some c, some ps, none, some sa, some st, bs.2.2) := by rw [e8]; exact up_s
  refine ⟨_, b8, fun mu10 e10 => ?_⟩
  have f10 : Fx (fun k a => (k = 2 ∧ a = b) ∨ (k = 0 ∧ a = st)) m mu10 := f8.trans (by rw [e10]; exact Fx.sB (Or.inl (Or.inl ⟨rfl, rfl⟩)))
  have b10 : mB mu10 b = some (d 0, d 1, d 2, d 3, some c, some ps, none, some sa, some st, 0) := by rw [e10]; exact up_s
  have I10 : mI mu10 = mI mu6 := by rw [e10]; show mI mu8 = _; rw [e8]
  have ns : st ≠ sa := fun w => by rw [← w, ht] at hsaI; cases hsaI
  have nc : c ≠ sa := fun w => by rw [← w, hc1] at hsaI; cases hsaI
  have hE : ENV d c st wd sa := ⟨nc, hc, ns.symm, fun p hp => ⟨fun w => (by
    obtain ⟨-, f, h6, -⟩ := h4 p hp
    rw [w, hsaI] at h6
    cases h6), hw p hp⟩⟩
  have t10 : mI mu10 st = some (99, ft) := by
    rw [I10, e6]
    refine up_k ns ?_
    show mI mu2 st = _
    rw [e2]
    exact ht
  have s10 : mI mu10 sa = some (dP d, fun _ => 0) := by rw [I10, e6]; exact up_s
  have B10 : BK mu10 b d c ps st g wd (none, some sa, nI 0) := hB'.upS (bs' := (none, some sa, nI 0)) hE (f10.mono (fun k a w => w.elim Or.inl (fun w => Or.inr ⟨w.1, Or.inr w.2⟩))) b10 ⟨_, t10⟩
  have R10 : SR mu10 d b c ps st g wd sa 0 sg0 pl0 none := ⟨none, nI 0, B10, fun _ => rfl, ⟨_, s10, fun k hk => absurd hk (Nat.not_lt_zero _)⟩, ⟨_, t10, fun k hk => absurd hk (Nat.not_lt_zero _)⟩, rfl⟩
  refine ⟨_, b10, 5 * 3511, by omega, ?_⟩
  have hz : onP pl0 = 0 := rfl
  have pc := PC_s (b := b) (ps := ps) (g := g) hO hS hE (dP d) 0 (Nat.zero_add _) 32 (5 * 3511) mu10 (fun mu14 => ∃ x15, mB mu14 b = some x15 ∧ ∃ a15, x15.2.2.2.2.2.2.1 = some a15 ∧ ((0 + (1 + dP d / 16)) + 5 * 3511) ≤ cB ∧ Post a15 mu14) sg0 pl0 0 0 none (by omega) R10 (fun k hk => absurd hk (Nat.not_lt_zero _)) (fun w => absurd w (Nat.lt_irrefl _)) (fun w => absurd w (Nat.lt_irrefl _)) (by rw [hz]; omega) (Nat.le_refl _) rfl (by omega) (by show 5 * (3511 - _) ≤ _; omega) (fun m' f R => ?_)
  · exact pc
  · obtain ⟨bst, nn, hB2, -, -, -, hBR⟩ := R
    obtain ⟨pl, s, t, k1, k2, k3, k4, k5, k6, k7⟩ := hBR
    refine ⟨_, hB2.1, pl, k1, by omega, ?_⟩
    have hcn := cnP_B (d := d) (dP d) (Nat.le_refl _) sg0 (fun k hk => by omega)
    rw [Nat.sub_self] at hcn
    have hk2 : LK m' pl d (sgB d) (lyB d (dP d)) (nI (VR d (dP d) 0)) s t := by
      obtain ⟨l1, ⟨f, l2, l2'⟩, ftt, l3, l3'⟩ := k2
      have hly : (lyB d 0) = pl0 := rfl
      rw [hly] at hcn
      have l1 : mL m' pl = some (nI (0 + VR d (dP d) 0), some s, some t) := l1
      rw [Nat.zero_add] at l1
      refine ⟨l1, ⟨f, l2, fun p hp => ?_⟩, ⟨ftt, ?_, fun k hk => ?_⟩⟩
      · rw [l2' p hp]
        exact congrArg nI (hcn.1 p hp)
      · have l3 : mI m' t = some ((cnP d (dP d) (sg0, pl0)).2.1, ftt) := l3
        rw [hcn.2] at l3
        exact l3
      · have l3' : ∀ i, i < (cnP d (dP d) (sg0, pl0)).2.1 → ftt i = nI (fst1 d (cnP d (dP d) (sg0, pl0)).1 (cnP d (dP d) (sg0, pl0)).2 i) := l3'
        rw [hcn.2] at l3'
        rw [l3' k hk]
        have hpk := ((PQ_lyB (d := d) (dP d) (Nat.le_refl _)).1 k hk).1
        unfold fst1
        congr 2
        exact sumN_congr _ (fun x hx => by
          have := hcn.1 x (by omega)
          show cnt d x _ = cnt d x _
          rw [this])
    have hm : frM m sa := by
      refine ⟨hsaI, ?_, ?_, ?_, ?_, ?_, ?_, ?_, ?_⟩
      · have := hsa.2.1; rw [e2] at this; exact this
      · have := hsa.2.2.1; rw [e2] at this; exact this
      · have h9 : mB mu2 sa = none := hsa.2.2.2.1
        have hne : sa ≠ b := fun w => by rw [w, b2] at h9; cases h9
        rw [e2] at h9
        have h9 : va_up (mB m) b _ sa = none := h9
        rw [up_n hne] at h9
        exact h9
      · have := hsa.2.2.2.2.1; rw [e2] at this; exact this
      · have := hsa.2.2.2.2.2.1; rw [e2] at this; exact this
      · have := hsa.2.2.2.2.2.2.1; rw [e2] at this; exact this
      · have := hsa.2.2.2.2.2.2.2.1; rw [e2] at this; exact this
      · have := hsa.2.2.2.2.2.2.2.2; rw [e2] at this; exact this
    have f11 : Fx (fun k a => exS b sa st k a) m m' := (f10.mono (fun k a w => w.elim Or.inl (fun w => Or.inr ⟨w.1, Or.inr w.2⟩))).trans f
    refine hP m' pl sa s t _ (f11.less (fun k a w => w.elim (fun w => Or.inl (Or.inl w)) (fun w => w.2.elim (fun y => Or.inr (by rw [y]; exact hm)) (fun y => Or.inl (Or.inr ⟨w.1, y⟩))))) hB2 hk2 k4 k6 hm
end SRC2
