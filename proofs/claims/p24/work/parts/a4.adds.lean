/-! PARAGRAPHS PUT IN AND TAKEN OUT; rows without a number -/
theorem ParEq.rows {d d' : Nat → Int32} {p q : Nat} (h : ParEq d p d' q) : d' (11 + 34 * q) = d (11 + 34 * p) ∧ d' (11 + 34 * q + 1) = d (11 + 34 * p + 1) ∧ d' (11 + 34 * q + 2) = d (11 + 34 * p + 2) ∧ dN d' q = dN d p ∧ ∀ k, k < 30 → d' (11 + 34 * q + (4 + k)) = d (11 + 34 * p + (4 + k)) :=
  ⟨h 0 (by decide), h 1 (by decide), h 2 (by decide), congrArg nz (h 3 (by decide)), fun k hk => h (4 + k) (by omega)⟩
section ADS
variable {m m' : Mu} {b : Nat} {d : Nat → Int32} {c ps st : Nat} {g wd : Nat → Nat} {bs : Option Nat × Option Nat × Int32} {cB : Nat}
def insF (f : Nat → Nat) (p a : Nat) : Nat → Nat := fun q => if q < p then f q else if q = p then a else f (q - 1)
def delF (f : Nat → Nat) (p : Nat) : Nat → Nat := fun q => if q < p then f q else f (q + 1)
/-- a row of references is laid in -/
theorem adds_L {Post : Mu → Prop} {p a v3 u : Nat} {x : ceP} {M0 : Mu} (hO : OkB d) (hB : BK M0 b d c ps st g wd bs) (ha : mP M0 a = some x) (hp : p ≤ dP d) (hne : ps ≠ v3) (hu : u ≤ cB) (hP : ∀ f, (∀ q, q < dP d + 1 → f q = some (insF g p a q)) → Post (sB (sQ M0 v3 (2, dP d + 1, f)) b (d 0, d 1, d 2, d 3, some c, some v3, bs.1, bs.2.1, some st, bs.2.2))) : ∀ r k : Nat, k + r = dP d + 1 → ∀ f : Nat → Option Nat, (∀ q, q < k → f q = some (insF g p a q)) → wpX7_adds_L14 cB Post (r + 1) (sQ M0 v3 (2, dP d + 1, f)) u b (nI p) a v3 (nI k)
  | r, k, hk, f, hf => by
    have h16 := hO.p16
    obtain ⟨k1, -, ⟨qq, k3, k3'⟩, k4, -⟩ := id hB
    have q1 : mQ (sQ M0 v3 (2, dP d + 1, f)) v3 = some (2, dP d + 1, f) := up_s
    have q0 : mQ (sQ M0 v3 (2, dP d + 1, f)) ps = some (2, dP d, qq) := up_k hne k3
    have nx : ∀ (r' s2 : Nat), r = r' + 1 → insF g p a k = s2 → k < dP d + 1 → (∃ y, mP M0 s2 = some y) → wpX7_adds_b59 cB Post (wpX7_adds_L14 cB Post r) (sQ M0 v3 (2, dP d + 1, f)) u b (nI p) a v3 (nI k) v3 (nI k) s2 := fun r' s2 er e1 hk1 hy => by
      obtain ⟨y, hy⟩ := hy
      unfold wpX7_adds_b59
      refine ⟨_, f, k, q1, rfl, hk1, by omega, y, hy, fun m11 e11 => ?_⟩
      have e12 : m11 = sQ M0 v3 (2, dP d + 1, va_up f k (some s2)) := by
        rw [e11]
        show (M0.1, va_up (va_up M0.2.1 v3 _) v3 _, _) = _
        rw [up_up]
      rw [e12, li1, nI_add]
      have := adds_L hO hB ha hp hne hu hP r' (k + 1) (by omega) (va_up f k (some s2)) (fun q hq => by
        by_cases w : q = k
        · subst w; rw [up_s, e1]
        · rw [up_n w]; exact hf q (by omega))
      rw [er]
      exact this
    unfold wpX7_adds_L14
    refine ⟨_, f, q1, fun z => ?_, fun z => ?_⟩
    · have e : k = dP d + 1 := by
        have := (nI_leI (by omega) (by omega)).mp z
        omega
      subst e
      refine ⟨_, k1, fun m7 e7 => ⟨hu, ?_⟩⟩
      rw [e7]
      exact hP f hf
    · have hkd : k < dP d + 1 := by
        rcases Nat.lt_or_ge k (dP d + 1) with w | w
        · exact w
        · exact absurd (nI_le w (by omega)) z
      obtain ⟨r', er⟩ : ∃ r', r = r' + 1 := ⟨r - 1, by omega⟩
      refine ⟨fun y => ⟨fun w => ?_, fun w => ?_⟩, fun y => ?_⟩
      · rw [nI_leI (by omega) (by omega)] at y
        have w : ¬ k = p := fun e => w (by rw [e])
        refine ⟨_, k1, _, rfl, _, _, k - 1, q0, by rw [li1, sm_sub (by omega)], by omega, by omega, _, k3' (k - 1) (by omega), nx r' _ er ?_ hkd ⟨_, (k4 (k - 1) (by omega)).1⟩⟩
        unfold insF
        rw [if_neg (by omega), if_neg w]
      · have w : k = p := (nI_eq (by omega) (by omega)).mp w
        refine nx r' a er ?_ hkd ⟨_, ha⟩
        unfold insF
        rw [if_neg (by omega), if_pos w]
      · rw [nI_leI (by omega) (by omega)] at y
        refine ⟨_, k1, _, rfl, _, _, k, q0, rfl, by omega, by omega, _, k3' k (by omega), nx r' _ er ?_ hkd ⟨_, (k4 k (by omega)).1⟩⟩
        unfold insF
        rw [if_pos (by omega)]
theorem adds_s {Post : Mu → Prop} {p a w : Nat} {d' : Nat → Int32} (hO : OkB d) (hB : BK m b d c ps st g wd bs) (hp : p ≤ dP d) (hd : HeadEq d d') (hP' : dP d' = dP d + 1) (h1 : ∀ q, q < p → ParEq d q d' q) (h2 : ∀ q, p ≤ q → q < dP d → ParEq d q d' (q + 1)) (ha : mP m a = some (d' (11 + 34 * p), d' (11 + 34 * p + 1), d' (11 + 34 * p + 2), some w)) (hw : ∃ f, mI m w = some (dN d' p, f) ∧ ∀ k, k < dN d' p → f k = d' (11 + 34 * p + (4 + k))) (hcB : 2 ≤ cB) (hP : ∀ mu ps', Fx (fun k x => k = 2 ∧ x = b) m mu → BK mu b d' c ps' st (insF g p a) (insF wd p w) bs → Post mu) : wpX7_adds cB m b (nI p) a Post := by
  have h16 := hO.p16
  obtain ⟨k1, ⟨fc, kc, kc'⟩, ⟨qq, k3, k3'⟩, k4, ft, kt⟩ := id hB
  unfold wpX7_adds
  refine ⟨_, k1, _, rfl, _, _, k3, dP d + 1, by rw [li1, nI_add], by omega, by omega, fun v3 hv mu4 e4 => ⟨dP d + 2, ?_⟩⟩
  subst e4
  have hne : ps ≠ v3 := fun z => by rw [z, hv.2.1] at k3; cases k3
  refine adds_L (M0 := m) hO hB ha hp hne (by omega) (fun f hf => ?_) (dP d + 1) 0 (Nat.zero_add _) (fun _ => none) (fun q hq => absurd hq (Nat.not_lt_zero _))
  have hF : Fx (fun k x => k = 2 ∧ x = b) m (sB (sQ m v3 (2, dP d + 1, f)) b (d 0, d 1, d 2, d 3, some c, some v3, bs.1, bs.2.1, some st, bs.2.2)) := (Fx.sQ (Or.inr hv.2.1)).trans (Fx.sB (Or.inl ⟨rfl, rfl⟩))
  refine hP _ v3 hF ⟨?_, ⟨fc, kc, fun k hk => ?_⟩, ⟨f, ?_, fun q hq => hf q (by omega)⟩, fun q hq => ?_, ⟨ft, kt⟩⟩
  · rw [hd 0 (by decide) (by decide), hd 1 (by decide) (by decide), hd 2 (by decide) (by decide), hd 3 (by decide) (by decide)]
    exact up_s
  · rw [hd (5 + k) (by omega) (by omega)]
    exact kc' k hk
  · rw [hP']
    exact up_s
  · rw [hP'] at hq
    unfold insF
    by_cases y1 : q < p
    · obtain ⟨e0, e1, e2, e3, e4⟩ := (h1 q y1).rows
      obtain ⟨j1, fj, j2, j3⟩ := k4 q (by omega)
      have n30 := hO.n30 (show q < dP d by omega)
      rw [if_pos y1, if_pos y1, e0, e1, e2, e3]
      exact ⟨j1, fj, j2, fun k hk => by rw [e4 k (by omega)]; exact j3 k hk⟩
    · by_cases y2 : q = p
      · rw [if_neg y1, if_neg y1, if_pos y2, if_pos y2, y2]
        exact ⟨ha, hw⟩
      · have e5 : q - 1 + 1 = q := by omega
        have hh := h2 (q - 1) (by omega) (by omega)
        rw [e5] at hh
        obtain ⟨e0, e1, e2, e3, e4⟩ := hh.rows
        obtain ⟨j1, fj, j2, j3⟩ := k4 (q - 1) (by omega)
        have n30 := hO.n30 (show q - 1 < dP d by omega)
        rw [if_neg y1, if_neg y1, if_neg y2, if_neg y2, e0, e1, e2, e3]
        exact ⟨j1, fj, j2, fun k hk => by rw [e4 k (by omega)]; exact j3 k hk⟩
theorem drops_L {Post : Mu → Prop} {p v2 u : Nat} {M0 : Mu} (hO : OkB d) (hB : BK M0 b d c ps st g wd bs) (hp : p < dP d) (hne : ps ≠ v2) (hu : u ≤ cB) (hP : ∀ f, (∀ q, q < dP d - 1 → f q = some (delF g p q)) → Post (sB (sQ M0 v2 (2, dP d - 1, f)) b (d 0, d 1, d 2, d 3, some c, some v2, bs.1, bs.2.1, some st, bs.2.2))) : ∀ r k : Nat, k + r = dP d - 1 → ∀ f : Nat → Option Nat, (∀ q, q < k → f q = some (delF g p q)) → wpX7_drops_L13 cB Post (r + 1) (sQ M0 v2 (2, dP d - 1, f)) u b (nI p) v2 (nI k)
  | r, k, hk, f, hf => by
    have h16 := hO.p16
    obtain ⟨k1, -, ⟨qq, k3, k3'⟩, k4, -⟩ := id hB
    have q1 : mQ (sQ M0 v2 (2, dP d - 1, f)) v2 = some (2, dP d - 1, f) := up_s
    have q0 : mQ (sQ M0 v2 (2, dP d - 1, f)) ps = some (2, dP d, qq) := up_k hne k3
    have nx : ∀ (r' j : Nat), r = r' + 1 → delF g p k = g j → k < dP d - 1 → j < dP d → wpX7_drops_b37 cB Post (wpX7_drops_L13 cB Post r) (sQ M0 v2 (2, dP d - 1, f)) u b (nI p) v2 (nI k) v2 (nI k) ps (nI j) := fun r' j er e1 hk1 hj => by
      unfold wpX7_drops_b37
      refine ⟨_, qq, j, q0, rfl, hj, by omega, _, k3' j hj, _, f, k, q1, rfl, hk1, by omega, _, (k4 j hj).1, fun m11 e11 => ?_⟩
      have e12 : m11 = sQ M0 v2 (2, dP d - 1, va_up f k (some (g j))) := by
        rw [e11]
        show (M0.1, va_up (va_up M0.2.1 v2 _) v2 _, _) = _
        rw [up_up]
      rw [e12, li1, nI_add]
      have := drops_L hO hB hp hne hu hP r' (k + 1) (by omega) (va_up f k (some (g j))) (fun q hq => by
        by_cases w : q = k
        · subst w; rw [up_s, e1]
        · rw [up_n w]; exact hf q (by omega))
      rw [er]
      exact this
    unfold wpX7_drops_L13
    refine ⟨_, f, q1, fun z => ?_, fun z => ?_⟩
    · have e : k = dP d - 1 := by
        have := (nI_leI (by omega) (by omega)).mp z
        omega
      subst e
      refine ⟨_, k1, fun m7 e7 => ⟨hu, ?_⟩⟩
      rw [e7]
      exact hP f hf
    · have hkd : k < dP d - 1 := by
        rcases Nat.lt_or_ge k (dP d - 1) with w | w
        · exact w
        · exact absurd (nI_le w (by omega)) z
      obtain ⟨r', er⟩ : ∃ r', r = r' + 1 := ⟨r - 1, by omega⟩
      refine ⟨_, k1, _, rfl, fun y => ?_, fun y => ?_⟩
      · rw [nI_leI (by omega) (by omega)] at y
        rw [li1, nI_add]
        exact nx r' (k + 1) er (by unfold delF; rw [if_neg (by omega)]) hkd (by omega)
      · rw [nI_leI (by omega) (by omega)] at y
        exact nx r' k er (by unfold delF; rw [if_pos (by omega)]) hkd (by omega)
theorem drops_s {Post : Mu → Prop} {p : Nat} {d' : Nat → Int32} (hO : OkB d) (hB : BK m b d c ps st g wd bs) (hp : p < dP d) (hd : HeadEq d d') (hP' : dP d' = dP d - 1) (h1 : ∀ q, q < p → ParEq d q d' q) (h2 : ∀ q, p ≤ q → q < dP d - 1 → ParEq d (q + 1) d' q) (hcB : 2 ≤ cB) (hP : ∀ mu ps', Fx (fun k x => k = 2 ∧ x = b) m mu → BK mu b d' c ps' st (delF g p) (delF wd p) bs → Post mu) : wpX7_drops cB m b (nI p) Post := by
  have h16 := hO.p16
  obtain ⟨k1, ⟨fc, kc, kc'⟩, ⟨qq, k3, k3'⟩, k4, ft, kt⟩ := id hB
  unfold wpX7_drops
  refine ⟨_, k1, _, rfl, _, _, k3, dP d - 1, by rw [li1, sm_sub (by omega)], by omega, by omega, fun v3 hv mu4 e4 => ⟨dP d - 1 + 1, ?_⟩⟩
  subst e4
  have hne : ps ≠ v3 := fun z => by rw [z, hv.2.1] at k3; cases k3
  refine drops_L (M0 := m) hO hB hp hne (by omega) (fun f hf => ?_) (dP d - 1) 0 (Nat.zero_add _) (fun _ => none) (fun q hq => absurd hq (Nat.not_lt_zero _))
  have hF : Fx (fun k x => k = 2 ∧ x = b) m (sB (sQ m v3 (2, dP d - 1, f)) b (d 0, d 1, d 2, d 3, some c, some v3, bs.1, bs.2.1, some st, bs.2.2)) := (Fx.sQ (Or.inr hv.2.1)).trans (Fx.sB (Or.inl ⟨rfl, rfl⟩))
  refine hP _ v3 hF ⟨?_, ⟨fc, kc, fun k hk => ?_⟩, ⟨f, ?_, fun q hq => hf q (by omega)⟩, fun q hq => ?_, ⟨ft, kt⟩⟩
  · rw [hd 0 (by decide) (by decide), hd 1 (by decide) (by decide), hd 2 (by decide) (by decide), hd 3 (by decide) (by decide)]
    exact up_s
  · rw [hd (5 + k) (by omega) (by omega)]
    exact kc' k hk
  · rw [hP']
    exact up_s
  · rw [hP'] at hq
    unfold delF
    by_cases y1 : q < p
    · obtain ⟨e0, e1, e2, e3, e4⟩ := (h1 q y1).rows
      obtain ⟨j1, fj, j2, j3⟩ := k4 q (by omega)
      have n30 := hO.n30 (show q < dP d by omega)
      rw [if_pos y1, if_pos y1, e0, e1, e2, e3]
      exact ⟨j1, fj, j2, fun k hk => by rw [e4 k (by omega)]; exact j3 k hk⟩
    · obtain ⟨e0, e1, e2, e3, e4⟩ := (h2 q (by omega) hq).rows
      obtain ⟨j1, fj, j2, j3⟩ := k4 (q + 1) (by omega)
      have n30 := hO.n30 (show q + 1 < dP d by omega)
      rw [if_neg y1, if_neg y1, e0, e1, e2, e3]
      exact ⟨j1, fj, j2, fun k hk => by rw [e4 k (by omega)]; exact j3 k hk⟩
/-- a row without one of its numbers -/
theorem without_L {Post : Nat → Mu → Prop} {v q n j u : Nat} {f : Nat → Int32} {M0 : Mu} (hn : n ≤ 900) (hv : mI M0 v = some (n, f)) (hvq : v ≠ q) (hj : j < n) (hu : u ≤ cB) (hP : ∀ f', (∀ i, i < n - 1 → f' i = if i < j then f i else f (i + 1)) → Post q (sI M0 q (n - 1, f'))) : ∀ r k : Nat, k + r = n - 1 → ∀ fk : Nat → Int32, (∀ i, i < k → fk i = if i < j then f i else f (i + 1)) → wpL_without_L9 cB Post (r + 1) (sI M0 q (n - 1, fk)) u v (nI j) q (nI k)
  | r, k, hk, fk, hf => by
    have v1 : mI (sI M0 q (n - 1, fk)) v = some (n, f) := up_k hvq hv
    have q1 : mI (sI M0 q (n - 1, fk)) q = some (n - 1, fk) := up_s
    have nx : ∀ (r' i : Nat), r = r' + 1 → k < n - 1 → i < n → f i = (if k < j then f k else f (k + 1)) → wpL_without_b30 cB Post (wpL_without_L9 cB Post r) (sI M0 q (n - 1, fk)) u v (nI j) q (nI k) q (nI k) v (nI i) := fun r' i er h1 h2 h3 => by
      unfold wpL_without_b30
      refine ⟨_, f, i, v1, rfl, h2, by omega, _, fk, k, q1, rfl, h1, by omega, fun m7 e7 => ?_⟩
      have e8 : m7 = sI M0 q (n - 1, upd fk k (f i)) := by
        rw [e7]
        show (va_up (va_up M0.1 q _) q _, _) = _
        rw [up_up]
      rw [e8, li1, nI_add]
      have := without_L hn hv hvq hj hu hP r' (k + 1) (by omega) (upd fk k (f i)) (fun x hx => by
        by_cases w : x = k
        · subst w; rw [pk_us, h3]
        · rw [pk_un w]; exact hf x (by omega))
      rw [er]
      exact this
    unfold wpL_without_L9
    refine ⟨_, fk, q1, fun z => ?_, fun z => ?_⟩
    · have e : k = n - 1 := by
        have := (nI_leI (by omega) (by omega)).mp z
        omega
      subst e
      exact ⟨hu, hP fk hf⟩
    · have hkd : k < n - 1 := by
        rcases Nat.lt_or_ge k (n - 1) with w | w
        · exact w
        · exact absurd (nI_le w (by omega)) z
      obtain ⟨r', er⟩ : ∃ r', r = r' + 1 := ⟨r - 1, by omega⟩
      refine ⟨fun y => ?_, fun y => ?_⟩
      · rw [nI_leI (by omega) (by omega)] at y
        rw [li1, nI_add]
        exact nx r' (k + 1) er hkd (by omega) (by rw [if_neg (by omega)])
      · rw [nI_leI (by omega) (by omega)] at y
        exact nx r' k er hkd (by omega) (by rw [if_pos (by omega)])
theorem without_s {Post : Nat → Mu → Prop} {v n j : Nat} {f : Nat → Int32} (hn : n ≤ 900) (hv : mI m v = some (n, f)) (hj : j < n) (hcB : 1 + n / 16 ≤ cB) (hP : ∀ q f', frM m q → (∀ i, i < n - 1 → f' i = if i < j then f i else f (i + 1)) → Post q (sI m q (n - 1, f'))) : wpL_without cB m v (nI j) Post := by
  unfold wpL_without
  refine ⟨_, f, hv, n - 1, by rw [li1, sm_sub (by omega)], by omega, by omega, fun q hq mu3 e3 => ⟨n - 1 + 1, ?_⟩⟩
  subst e3
  have hvq : v ≠ q := fun z => by rw [z, hq.1] at hv; cases hv
  exact without_L hn hv hvq hj (by omega) (fun f' h => hP q f' hq h) (n - 1) 0 (Nat.zero_add _) _ (fun i hi => absurd hi (Nat.not_lt_zero _))
end ADS
