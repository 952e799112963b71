/-! THE CLASS'S HISTORY -/
theorem CB_congr {d : Nat → Int32} {w h s l P : Int32} {costs rows costs' rows' : Nat → Int32} (hO : OkB d) (hB : CB d w h s l P costs rows) (hc : ∀ j, j < 6 → costs' j = costs j) (hr : ∀ j, j < 544 → rows' j = rows j) : CB d w h s l P costs' rows' := by
  obtain ⟨a, b, c, e, f, g, i⟩ := hB
  have h16 := hO.p16
  refine ⟨a, b, c, e, f, fun k hk => (hc k hk).trans (g k hk), fun p hp => ?_⟩
  have h30 := hO.n30 hp
  obtain ⟨i1, i2, i3, i4, i5⟩ := i p hp
  exact ⟨(hr _ (by omega)).trans i1, (hr _ (by omega)).trans i2, (hr _ (by omega)).trans i3, (hr _ (by omega)).trans i4, fun k hk => (hr _ (by omega)).trans (i5 k hk)⟩
theorem copyFrom_s {d : Nat → Int32} {w h s l P w0 h0 s0 l0 P0 : Int32} {costs rows costs0 rows0 : Nat → Int32} {Post : Int32 → Int32 → Int32 → Int32 → Int32 → (Nat → Int32) → (Nat → Int32) → Prop} (hO : OkB d) (hB : CB d w h s l P costs rows) (hP : ∀ costs' rows', CB d w h s l P costs' rows' → Post w h s l P costs' rows') : wpX0_copyFrom w0 h0 s0 l0 P0 costs0 rows0 w h s l P costs rows Post := by
  unfold wpX0_copyFrom
  refine copyRow_s (by decide) (by decide) (fun c' hc => copyRow_s (by decide) (by decide) (fun r' hr => hP c' r' (CB_congr hO hB (fun j hj => ?_) (fun j hj => ?_))))
  · rw [hc j, if_pos (by omega)]
  · rw [hr j, if_pos (by omega)]
/-- the last changes' books, the eldest first, as the class's ring has them -/
def CHist (hist : Nat → Nat → Int32) (n : Nat) (hn hk : Int32) (hW hH hS hL hP : Nat → Int32) (hC hR : Nat → Nat → Int32) : Prop := ∃ x, x < 8 ∧ hn = nI x ∧ hk = nI n ∧ n ≤ 8 ∧ ∀ i, i < n → OkB (hist i) ∧ CB (hist i) (hW ((x + 8 - n + i) % 8)) (hH ((x + 8 - n + i) % 8)) (hS ((x + 8 - n + i) % 8)) (hL ((x + 8 - n + i) % 8)) (hP ((x + 8 - n + i) % 8)) (hC ((x + 8 - n + i) % 8)) (hR ((x + 8 - n + i) % 8))
def pushH (hist : Nat → Nat → Int32) (n : Nat) (d : Nat → Int32) : Nat → Nat → Int32 := if n = 8 then (fun i => if i = 7 then d else hist (i + 1)) else fun i => if i = n then d else hist i
def pushN (n : Nat) : Nat := if n = 8 then 8 else n + 1
theorem CHist_push {hist : Nat → Nat → Int32} {n x x' : Nat} {hn hk hk' : Int32} {hW hH hS hL hP : Nat → Int32} {hC hR : Nat → Nat → Int32} {d : Nat → Int32} {w h s l P : Int32} {costs rows : Nat → Int32} (hx : x < 8) (hxn : hn = nI x) (hh : CHist hist n hn hk hW hH hS hL hP hC hR) (hO : OkB d) (hB : CB d w h s l P costs rows) (hx' : x' = (x + 1) % 8) (hk2 : hk' = if (8 : Int32) < hk + 1 then 8 else hk + 1) :
    CHist (pushH hist n d) (pushN n) (nI x') hk' (va_up hW x w) (va_up hH x h) (va_up hS x s) (va_up hL x l) (va_up hP x P) (va_up hC x costs) (va_up hR x rows) := by
  obtain ⟨y, hy, e1, e2, hn8, hi⟩ := hh
  have e : y = x := by
    rw [hxn] at e1
    exact ((nI_eq (by omega) (by omega)).mp e1).symm
  subst e
  refine ⟨x', by omega, rfl, ?_, by unfold pushN; split <;> omega, fun i hi2 => ?_⟩
  · rw [hk2, e2]
    unfold pushN
    rw [li8, nI_1]
    by_cases g : n = 8
    · rw [if_pos g, if_pos (by rw [nI_ltI (by omega) (by omega)]; omega)]
    · rw [if_neg g, if_neg (by rw [nI_ltI (by omega) (by omega)]; omega)]
  · unfold pushN at hi2 ⊢
    unfold pushH
    have us : ∀ {α : Type} (f : Nat → α) (v : α) (j : Nat), j = y → va_up f y v j = v := fun f v j hj => if_pos hj
    have un : ∀ {α : Type} (f : Nat → α) (v : α) (j : Nat), j ≠ y → va_up f y v j = f j := fun f v j hj => if_neg hj
    by_cases g : n = 8
    · rw [if_pos g] at hi2 ⊢
      rw [if_pos g]
      by_cases g2 : i = 7
      · skip
        rw [if_pos g2, us _ _ _ (by omega), us _ _ _ (by omega), us _ _ _ (by omega), us _ _ _ (by omega), us _ _ _ (by omega), us _ _ _ (by omega), us _ _ _ (by omega)]
        exact ⟨hO, hB⟩
      · have h3 := hi (i + 1) (by omega)
        rw [show (y + 8 - n + (i + 1)) % 8 = (x' + 8 - 8 + i) % 8 by omega] at h3
        rw [if_neg g2, un _ _ _ (by omega), un _ _ _ (by omega), un _ _ _ (by omega), un _ _ _ (by omega), un _ _ _ (by omega), un _ _ _ (by omega), un _ _ _ (by omega)]
        exact h3
    · rw [if_neg g] at hi2 ⊢
      rw [if_neg g]
      by_cases g2 : i = n
      · skip
        rw [if_pos g2, us _ _ _ (by omega), us _ _ _ (by omega), us _ _ _ (by omega), us _ _ _ (by omega), us _ _ _ (by omega), us _ _ _ (by omega), us _ _ _ (by omega)]
        exact ⟨hO, hB⟩
      · have h3 := hi i (by omega)
        rw [show (y + 8 - n + i) % 8 = (x' + 8 - (n + 1) + i) % 8 by omega] at h3
        rw [if_neg g2, un _ _ _ (by omega), un _ _ _ (by omega), un _ _ _ (by omega), un _ _ _ (by omega), un _ _ _ (by omega), un _ _ _ (by omega), un _ _ _ (by omega)]
        exact h3
theorem keep_s {hist : Nat → Nat → Int32} {n : Nat} {hn hk : Int32} {hW hH hS hL hP : Nat → Int32} {hC hR : Nat → Nat → Int32} {d : Nat → Int32} {w h s l P : Int32} {costs rows : Nat → Int32} {Post : Int32 → Int32 → (Nat → Int32) → (Nat → Int32) → (Nat → Int32) → (Nat → Int32) → (Nat → Int32) → (Nat → Nat → Int32) → (Nat → Nat → Int32) → Prop} (hh : CHist hist n hn hk hW hH hS hL hP hC hR) (hO : OkB d) (hB : CB d w h s l P costs rows)
    (hp : ∀ hn hk hW hH hS hL hP hC hR, CHist (pushH hist n d) (pushN n) hn hk hW hH hS hL hP hC hR → Post hn hk hW hH hS hL hP hC hR) : wpX1_keep hn hk hW hH hS hL hP hC hR w h s l P costs rows Post := by
  have hh0 := hh
  obtain ⟨x, hx, rfl, -, -, -⟩ := hh
  unfold wpX1_keep wpX1_keep_b40
  have ne : ∀ {X : Prop} (j : Nat), j < 8 → x ≠ j → nI x = nI j → X := fun j hj g z => absurd ((nI_eq (by omega) (by omega)).mp z) g
  refine ⟨vp_in_nI hx (by decide), ?_, ?_, ?_, ?_, ?_, ?_, ?_, ?_⟩
  · intro z
    by_cases g : x = 0
    · subst g
      refine copyFrom_s hO hB (fun c' r' hB' => ?_)
      exact ⟨fun z => absurd z (by decide), fun _ => hp _ _ _ _ _ _ _ _ _ (CHist_push (x := 0) (x' := 1) (by decide) rfl hh0 hO hB' rfl rfl)⟩
    · exact ne 0 (by decide) g z
  · intro z
    by_cases g : x = 1
    · subst g
      refine copyFrom_s hO hB (fun c' r' hB' => ?_)
      exact ⟨fun z => absurd z (by decide), fun _ => hp _ _ _ _ _ _ _ _ _ (CHist_push (x := 1) (x' := 2) (by decide) rfl hh0 hO hB' rfl rfl)⟩
    · exact ne 1 (by decide) g z
  · intro z
    by_cases g : x = 2
    · subst g
      refine copyFrom_s hO hB (fun c' r' hB' => ?_)
      exact ⟨fun z => absurd z (by decide), fun _ => hp _ _ _ _ _ _ _ _ _ (CHist_push (x := 2) (x' := 3) (by decide) rfl hh0 hO hB' rfl rfl)⟩
    · exact ne 2 (by decide) g z
  · intro z
    by_cases g : x = 3
    · subst g
      refine copyFrom_s hO hB (fun c' r' hB' => ?_)
      exact ⟨fun z => absurd z (by decide), fun _ => hp _ _ _ _ _ _ _ _ _ (CHist_push (x := 3) (x' := 4) (by decide) rfl hh0 hO hB' rfl rfl)⟩
    · exact ne 3 (by decide) g z
  · intro z
    by_cases g : x = 4
    · subst g
      refine copyFrom_s hO hB (fun c' r' hB' => ?_)
      exact ⟨fun z => absurd z (by decide), fun _ => hp _ _ _ _ _ _ _ _ _ (CHist_push (x := 4) (x' := 5) (by decide) rfl hh0 hO hB' rfl rfl)⟩
    · exact ne 4 (by decide) g z
  · intro z
    by_cases g : x = 5
    · subst g
      refine copyFrom_s hO hB (fun c' r' hB' => ?_)
      exact ⟨fun z => absurd z (by decide), fun _ => hp _ _ _ _ _ _ _ _ _ (CHist_push (x := 5) (x' := 6) (by decide) rfl hh0 hO hB' rfl rfl)⟩
    · exact ne 5 (by decide) g z
  · intro z
    by_cases g : x = 6
    · subst g
      refine copyFrom_s hO hB (fun c' r' hB' => ?_)
      exact ⟨fun z => absurd z (by decide), fun _ => hp _ _ _ _ _ _ _ _ _ (CHist_push (x := 6) (x' := 7) (by decide) rfl hh0 hO hB' rfl rfl)⟩
    · exact ne 6 (by decide) g z
  · intro z
    by_cases g : x = 7
    · subst g
      refine copyFrom_s hO hB (fun c' r' hB' => ?_)
      exact ⟨fun _ => hp _ _ _ _ _ _ _ _ _ (CHist_push (x := 7) (x' := 0) (by decide) rfl hh0 hO hB' rfl rfl), fun z => absurd (by decide) z⟩
    · exact ne 7 (by decide) g z
theorem bring_at {hist : Nat → Nat → Int32} {n x : Nat} {hn kk : Int32} {hW hH hS hL hP : Nat → Int32} {hC hR : Nat → Nat → Int32} {w h s l P : Int32} {costs rows : Nat → Int32} {Post : Int32 → Int32 → Int32 → Int32 → Int32 → Int32 → Int32 → (Nat → Int32) → (Nat → Int32) → Prop} (hx : x < 8) (hO : OkB (hist n)) (hB : CB (hist n) (hW x) (hH x) (hS x) (hL x) (hP x) (hC x) (hR x)) (hkk : kk - 1 = nI n)
    (hp : ∀ w h s l P costs rows, CB (hist n) w h s l P costs rows → Post (nI x) (nI n) w h s l P costs rows) : wpX1_bringBack_b19 hW hH hS hL hP hC hR Post hn kk w h s l P costs rows (nI x) := by
  unfold wpX1_bringBack_b19
  have ne : ∀ {X : Prop} (j : Nat), j < 8 → x ≠ j → nI x = nI j → X := fun j hj g z => absurd ((nI_eq (by omega) (by omega)).mp z) g
  rw [hkk]
  refine ⟨vp_in_nI hx (by decide), ?_, ?_, ?_, ?_, ?_, ?_, ?_, ?_⟩
  · intro z
    by_cases g : x = 0
    · subst g
      exact copyFrom_s hO hB (fun c' r' hB' => hp _ _ _ _ _ _ _ hB')
    · exact ne 0 (by decide) g z
  · intro z
    by_cases g : x = 1
    · subst g
      exact copyFrom_s hO hB (fun c' r' hB' => hp _ _ _ _ _ _ _ hB')
    · exact ne 1 (by decide) g z
  · intro z
    by_cases g : x = 2
    · subst g
      exact copyFrom_s hO hB (fun c' r' hB' => hp _ _ _ _ _ _ _ hB')
    · exact ne 2 (by decide) g z
  · intro z
    by_cases g : x = 3
    · subst g
      exact copyFrom_s hO hB (fun c' r' hB' => hp _ _ _ _ _ _ _ hB')
    · exact ne 3 (by decide) g z
  · intro z
    by_cases g : x = 4
    · subst g
      exact copyFrom_s hO hB (fun c' r' hB' => hp _ _ _ _ _ _ _ hB')
    · exact ne 4 (by decide) g z
  · intro z
    by_cases g : x = 5
    · subst g
      exact copyFrom_s hO hB (fun c' r' hB' => hp _ _ _ _ _ _ _ hB')
    · exact ne 5 (by decide) g z
  · intro z
    by_cases g : x = 6
    · subst g
      exact copyFrom_s hO hB (fun c' r' hB' => hp _ _ _ _ _ _ _ hB')
    · exact ne 6 (by decide) g z
  · intro z
    by_cases g : x = 7
    · subst g
      exact copyFrom_s hO hB (fun c' r' hB' => hp _ _ _ _ _ _ _ hB')
    · exact ne 7 (by decide) g z
theorem bring_s {hist : Nat → Nat → Int32} {n : Nat} {hn hk : Int32} {hW hH hS hL hP : Nat → Int32} {hC hR : Nat → Nat → Int32} {w h s l P : Int32} {costs rows : Nat → Int32} {Post : Int32 → Int32 → Int32 → Int32 → Int32 → Int32 → Int32 → (Nat → Int32) → (Nat → Int32) → Prop} (hh : CHist hist (n + 1) hn hk hW hH hS hL hP hC hR)
    (hp : ∀ hn w h s l P costs rows, CB (hist n) w h s l P costs rows → CHist hist n hn (nI n) hW hH hS hL hP hC hR → Post hn (nI n) w h s l P costs rows) : wpX1_bringBack hn hk hW hH hS hL hP hC hR w h s l P costs rows Post := by
  obtain ⟨x, hx, rfl, rfl, hn8, hi⟩ := hh
  have hl := hi n (Nat.lt_succ_self n)
  have next : CHist hist n (nI ((x + 7) % 8)) (nI n) hW hH hS hL hP hC hR := ⟨(x + 7) % 8, by omega, rfl, rfl, by omega, fun i hi2 => by
    have := hi i (by omega)
    rw [show (x + 8 - (n + 1) + i) % 8 = ((x + 7) % 8 + 8 - n + i) % 8 by omega] at this
    exact this⟩
  have e : (x + 8 - (n + 1) + n) % 8 = (x + 7) % 8 := by omega
  rw [e] at hl
  have go : wpX1_bringBack_b19 hW hH hS hL hP hC hR Post (nI x) (nI (n + 1)) w h s l P costs rows (nI ((x + 7) % 8)) := bring_at (by omega) hl.1 hl.2 (nI_pred n) (fun w h s l P costs rows hB => hp _ w h s l P costs rows hB next)
  unfold wpX1_bringBack
  by_cases g : x = 0
  · subst g
    exact ⟨fun _ => go, fun z => absurd (by decide) z⟩
  · refine ⟨fun z => absurd z (nI_nle (by omega) (by omega)), fun _ => ?_⟩
    rw [li1, sm_sub (by omega)]
    rw [show (x + 7) % 8 = x - 1 by omega] at go
    exact go
