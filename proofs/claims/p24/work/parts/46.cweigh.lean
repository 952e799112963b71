/-! THE CLASS'S PLANNER: weigh -/
section CWG
variable {d : Nat → Int32} {rows costs rob : Nat → Int32} {p c line n : Nat}
theorem weigh_tail {H L a2 a3 : Int32} {Post : (Nat → Int32) → (Nat → Int32) → Prop} {K81 : (Nat → Int32) → (Nat → Int32) → Int32 → Int32 → Int32 → Prop} {K146 : (Nat → Int32) → (Nat → Int32) → Int32 → Int32 → Int32 → Int32 → Int32 → Int32 → Int32 → Prop} {ends rest : Nat → Int32} {x4 x5 x7 x8 x9 x11 x12 : Int32} (hl : line < 30) (hn : n ≤ 40) (e : Bool) :
    wpX4_weigh_b242 rob H L costs rows a2 a3 Post K81 K146 ends rest x4 x5 (nI line) x7 x8 x9 (nI n) x11 x12 (bI e) = K146 (upd ends (line * 41 + n) (bI e)) (upd rest (line * 41 + n) (if e then x11 else x12)) x4 x5 (nI line) x7 x8 x9 (nI (n + 1)) := by
  unfold wpX4_weigh_b242 wpX4_weigh_b268 wpX4_weigh_b293
  cases e <;> simp (disch := omega) only [li0, li1, li2, li3, li4, li5, li6, li7, li8, li9, li10, li11, li12, li13, li16, li20, li24, li30, li32, li34, li40, li41, li48, li57, li59, li60, li97, li122, li255, li555, li700, li999, li100000, li100000000, li1000000000, nI_add, pk_mul, nI_leI, nI_ltI, nI_eq, nI_clamp, sm_sub, vp_in_T, bI_eq0, bI_eq1, true_and, and_true, true_implies, false_implies, not_true_eq_false, not_false_eq_true, Nat.add_zero, Nat.zero_add, Nat.zero_mul, Nat.mul_zero, put_e, bI_f, bI_t, if_true, if_false, reduceCtorEq]
/-- what weigh has done when i lines are done -/
def WA (d : Nat → Int32) (p c : Nat) (nx : Nat → Nat) (i : Nat) (ends rest : Nat → Int32) : Prop := (∀ i', i' ≤ i → ∀ m, m ≤ dH d → rest ((c - i') * 41 + m) = nI (Wl d p c nx i' m)) ∧ ∀ i', i' < i → ∀ m, m ≤ dH d → ends ((c - (i' + 1)) * 41 + m) = bI (en d p c nx i' m)
theorem weigh_in {nx : Nat → Nat} {a2 a3 : Int32} {Post : (Nat → Int32) → (Nat → Int32) → Prop} {K81 : (Nat → Int32) → (Nat → Int32) → Int32 → Int32 → Int32 → Prop} {x4 x5 x7 : Int32} {i : Nat} (hO : OkB d) (hC : CCosts d costs) (hnx : ∀ n, nx n ≤ 21098880) (hc : c ≤ 30) (hi : i < c) (hx4 : x4 = bI (dB d p)) (hx7 : x7 = bI (decide (c - (i + 1) = 0)))
    (hK : ∀ ends rest, WA d p c nx (i + 1) ends rest → K81 ends rest x4 x5 (nI (c - (i + 1)) + (-1))) :
    ∀ (r n : Nat) (ends rest : Nat → Int32), n + r = dH d + 1 → WA d p c nx i ends rest → (∀ m, m < n → rest ((c - (i + 1)) * 41 + m) = nI (Wl d p c nx (i + 1) m) ∧ ends ((c - (i + 1)) * 41 + m) = bI (en d p c nx i m)) →
      wpX4_weigh_L146 rob (nI (dH d)) (nI (dL d)) costs rows a2 a3 Post K81 (r + 1) ends rest x4 x5 (nI (c - (i + 1))) x7 (nI ((c - i) * 41)) (nI (bC d p (c - (i + 1)) c + Wl d p c nx i 1)) (nI n)
  | 0, n, ends, rest, hn, hA, hB => by
    have h40 := hO.h40
    unfold wpX4_weigh_L146
    have a : nI (dH d) < nI n := by rw [nI_ltI (by omega) (by omega)]; omega
    refine ⟨fun _ => hK _ _ ⟨fun i' hi' m hm => ?_, fun i' hi' m hm => ?_⟩, fun z => absurd a z⟩
    · rcases Nat.lt_or_ge i' (i + 1) with g | g
      · exact hA.1 i' (by omega) m hm
      · rw [show i' = i + 1 by omega]; exact (hB m (by omega)).1
    · rcases Nat.lt_or_ge i' i with g | g
      · exact hA.2 i' g m hm
      · rw [show i' = i by omega]; exact (hB m (by omega)).2
  | r + 1, n, ends, rest, hn, hA, hB => by
    have h40 := hO.h40
    have h2 := hO.h2
    have hnH : n ≤ dH d := by omega
    have a : ¬ nI (dH d) < nI n := by rw [nI_ltI (by omega) (by omega)]; omega
    have b0 := eC_le hO (sta d p (c - (i + 1))) n
    have b1 := bC_le hO p (c - (i + 1)) c
    have b2 := Wl_le hO p c hnx i 1
    have b3 := Wl_le hO p c hnx i (n + 1)
    have b4 : i * 42957 ≤ 1288710 := Nat.le_trans (Nat.mul_le_mul_right _ (show i ≤ 30 by omega)) (by decide)
    generalize i * 42957 = X at b2 b3 b4
    have hs : ∀ (st : Bool), x7 = bI (decide (c - (i + 1) = 0)) → st = (decide (c - (i + 1) = 0) && dB d p) → st = sta d p (c - (i + 1)) := fun st _ e => e
    -- the step, whatever lies behind the page's last line
    have step : ∀ r5 : Int32, (n < dH d → r5 = nI (Wl d p c nx i (n + 1))) → wpX4_weigh_b215 rob (nI (dH d)) (nI (dL d)) costs rows a2 a3 Post K81 (wpX4_weigh_L146 rob (nI (dH d)) (nI (dL d)) costs rows a2 a3 Post K81 (r + 1)) ends rest x4 x5 (nI (c - (i + 1))) x7 (nI ((c - i) * 41)) (nI (bC d p (c - (i + 1)) c + Wl d p c nx i 1)) (nI n) (nI (eC d (sta d p (c - (i + 1))) n) + nI (bC d p (c - (i + 1)) c + Wl d p c nx i 1)) r5 (nI n) (bI (sta d p (c - (i + 1)))) := by
      intro r5 hr5
      have fin : ∀ v, v = nI (Wl d p c nx (i + 1) n) → wpX4_weigh_L146 rob (nI (dH d)) (nI (dL d)) costs rows a2 a3 Post K81 (r + 1) (upd ends ((c - (i + 1)) * 41 + n) (bI (en d p c nx i n))) (upd rest ((c - (i + 1)) * 41 + n) v) x4 x5 (nI (c - (i + 1))) x7 (nI ((c - i) * 41)) (nI (bC d p (c - (i + 1)) c + Wl d p c nx i 1)) (nI (n + 1)) := by
        intro v hv
        refine weigh_in hO hC hnx hc hi hx4 hx7 hK r (n + 1) _ _ (by omega) ⟨fun i' hi' m hm => ?_, fun i' hi' m hm => ?_⟩ (fun m hm => ?_)
        · rw [pk_un (by omega)]; exact hA.1 i' hi' m hm
        · rw [pk_un (by omega)]; exact hA.2 i' hi' m hm
        · by_cases g : m = n
          · subst g; rw [pk_us, pk_us]; exact ⟨hv, rfl⟩
          · rw [pk_un (by omega), pk_un (by omega)]; exact hB m (by omega)
      unfold wpX4_weigh_b215 wpX4_weigh_b237 wpX4_weigh_b241
      rw [mustEnd_e hO (by omega), canEnd_e hO hnH]
      have t1 := weigh_tail (rob := rob) (rows := rows) (costs := costs) (H := nI (dH d)) (L := nI (dL d)) (a2 := a2) (a3 := a3) (Post := Post) (K81 := K81) (K146 := wpX4_weigh_L146 rob (nI (dH d)) (nI (dL d)) costs rows a2 a3 Post K81 (r + 1)) (ends := ends) (rest := rest) (x4 := x4) (x5 := x5) (x7 := x7) (x8 := nI ((c - i) * 41)) (x9 := nI (bC d p (c - (i + 1)) c + Wl d p c nx i 1)) (x11 := nI (eC d (sta d p (c - (i + 1))) n) + nI (bC d p (c - (i + 1)) c + Wl d p c nx i 1)) (x12 := r5) (line := c - (i + 1)) (n := n) (by omega) (by omega)
      have tt := t1 true
      have tf := t1 false
      rw [bI_t] at tt
      rw [bI_f] at tf
      rw [li0, li1, tt, tf]
      have yes : en d p c nx i n = true → wpX4_weigh_L146 rob (nI (dH d)) (nI (dL d)) costs rows a2 a3 Post K81 (r + 1) (upd ends ((c - (i + 1)) * 41 + n) (nI 1)) (upd rest ((c - (i + 1)) * 41 + n) (if true = true then nI (eC d (sta d p (c - (i + 1))) n) + nI (bC d p (c - (i + 1)) c + Wl d p c nx i 1) else r5)) x4 x5 (nI (c - (i + 1))) x7 (nI ((c - i) * 41)) (nI (bC d p (c - (i + 1)) c + Wl d p c nx i 1)) (nI (n + 1)) := fun he => by
        have f := fin (nI (eC d (sta d p (c - (i + 1))) n) + nI (bC d p (c - (i + 1)) c + Wl d p c nx i 1)) (by rw [Wl_en, if_pos he, nI_add])
        rw [he] at f
        exact f
      have no : en d p c nx i n = false → n < dH d → wpX4_weigh_L146 rob (nI (dH d)) (nI (dL d)) costs rows a2 a3 Post K81 (r + 1) (upd ends ((c - (i + 1)) * 41 + n) (nI 0)) (upd rest ((c - (i + 1)) * 41 + n) (if false = true then nI (eC d (sta d p (c - (i + 1))) n) + nI (bC d p (c - (i + 1)) c + Wl d p c nx i 1) else r5)) x4 x5 (nI (c - (i + 1))) x7 (nI ((c - i) * 41)) (nI (bC d p (c - (i + 1)) c + Wl d p c nx i 1)) (nI (n + 1)) := fun he hlt => by
        have f := fin r5 (by rw [Wl_en, if_neg (by rw [he]; decide)]; exact hr5 hlt)
        rw [he] at f
        exact f
      by_cases hm : must d (sta d p (c - (i + 1))) n = true
      · have he : en d p c nx i n = true := by unfold en; rw [hm]; rfl
        rw [hm]
        exact ⟨fun _ => yes he, fun z => absurd z (by decide)⟩
      · have hm' : must d (sta d p (c - (i + 1))) n = false := by simpa using hm
        have hlt : n < dH d := by
          rcases Nat.lt_or_ge n (dH d) with g | g
          · exact g
          · exact absurd (must_H hO _ g) hm
        rw [hm', hr5 hlt, nI_add, nI_leI (by omega) (by omega)]
        rw [hr5 hlt] at no
        have he : en d p c nx i n = (canE d n && decide (eC d (sta d p (c - (i + 1))) n + (bC d p (c - (i + 1)) c + Wl d p c nx i 1) < Wl d p c nx i (n + 1))) := by unfold en; rw [hm']; rfl
        refine ⟨fun z => absurd rfl z, fun _ => ?_⟩
        by_cases hcn : canE d n = true
        · rw [hcn] at he ⊢
          refine ⟨fun z => absurd z (by decide), fun _ => ⟨fun z => ?_, fun z => ?_⟩⟩
          · have := no (by rw [he, decide_eq_false (by omega)]; rfl) hlt
            rw [nI_add] at this
            exact this
          · have := yes (by rw [he, decide_eq_true (by omega)]; rfl)
            rw [hr5 hlt, nI_add] at this
            exact this
        · have hcn' : canE d n = false := by simpa using hcn
          rw [hcn'] at he ⊢
          refine ⟨fun _ => ?_, fun z => absurd rfl z⟩
          have := no he hlt
          rw [nI_add] at this
          exact this
    unfold wpX4_weigh_L146 wpX4_weigh_b172 wpX4_weigh_b173 wpX4_weigh_b214
    refine ⟨fun z => absurd z a, fun _ => ?_⟩
    have rd : ∀ {Pst : Int32 → Prop}, (∀ r5 : Int32, (n < dH d → r5 = nI (Wl d p c nx i (n + 1))) → Pst r5) → wpX6_get 1271 rest (nI ((c - i) * 41) + nI n + 1) Pst := by
      intro Pst hP
      rcases Nat.lt_or_ge n (dH d) with g | g
      · rw [nI_add, nI_1, get_e (by omega) (by decide)]
        exact hP _ (fun _ => by rw [show (c - i) * 41 + n + 1 = (c - i) * 41 + (n + 1) by omega]; exact hA.1 i (by omega) (n + 1) (by omega))
      · exact get_any (by decide) (fun r => hP r (fun z => by omega))
    have ec : ∀ {st : Bool} {Pst : Int32 → Prop}, wpX0_endCost (nI (dH d)) costs (nI n) (bI st) Pst = Pst (nI (eC d st n)) := endCost_e hO hC hnH
    have ec0 : ∀ {Pst : Int32 → Prop}, wpX0_endCost (nI (dH d)) costs (nI n) 0 Pst = Pst (nI (eC d false n)) := ec (st := false)
    have ec1 : ∀ {Pst : Int32 → Prop}, wpX0_endCost (nI (dH d)) costs (nI n) 1 Pst = Pst (nI (eC d true n)) := ec (st := true)
    subst hx4 hx7
    by_cases hl : c - (i + 1) = 0
    · cases hdB : dB d p
      · have es : sta d p (c - (i + 1)) = false := by unfold sta; rw [hdB, Bool.and_false]
        rw [es] at step
        refine ⟨fun z => absurd z (by rw [decide_eq_true hl]; decide), fun _ => ⟨fun _ => ?_, fun z => absurd rfl z⟩⟩
        rw [ec0]
        refine rd (fun r5 h5 => ⟨fun z => absurd z (by rw [decide_eq_true hl]; decide), fun _ => ⟨fun _ => ?_, fun z => absurd rfl z⟩⟩)
        have := step r5 h5
        rw [hdB] at this
        exact this
      · have es : sta d p (c - (i + 1)) = true := by unfold sta; rw [hdB, decide_eq_true hl]; rfl
        rw [es] at step
        refine ⟨fun z => absurd z (by rw [decide_eq_true hl]; decide), fun _ => ⟨fun z => absurd z (by decide), fun _ => ?_⟩⟩
        rw [ec1]
        refine rd (fun r5 h5 => ⟨fun z => absurd z (by rw [decide_eq_true hl]; decide), fun _ => ⟨fun z => absurd z (by decide), fun _ => ?_⟩⟩)
        have := step r5 h5
        rw [hdB] at this
        exact this
    · have es : sta d p (c - (i + 1)) = false := by unfold sta; rw [decide_eq_false hl]; rfl
      rw [es] at step
      refine ⟨fun _ => ?_, fun z => absurd (by rw [decide_eq_false hl]; rfl) z⟩
      rw [ec0]
      refine rd (fun r5 h5 => ⟨fun _ => ?_, fun z => absurd (by rw [decide_eq_false hl]; rfl) z⟩)
      exact step r5 h5
theorem weigh_L {nx : Nat → Nat} {Post : (Nat → Int32) → (Nat → Int32) → Prop} (hO : OkB d) (hC : CCosts d costs) (hnx : ∀ n, nx n ≤ 21098880) (hc : c ≤ 30) {a2 : Int32}
    (h : ∀ ends rest, WA d p c nx c ends rest → Post ends rest) :
    ∀ (r i : Nat) (ends rest : Nat → Int32), i + r = c → WA d p c nx i ends rest →
      wpX4_weigh_L81 rob (nI (dH d)) (nI (dL d)) costs rows a2 (nI c) Post (r + 1) ends rest (bI (dB d p)) (bI (decide (0 < p) && dHd d (p - 1))) (if r = 0 then (-1) else nI (r - 1))
  | 0, i, ends, rest, hi, hA => by
    have e : i = c := by omega
    subst e
    unfold wpX4_weigh_L81
    refine ⟨fun _ => h _ _ hA, fun z => absurd (by decide) z⟩
  | r + 1, i, ends, rest, hi, hA => by
    have h40 := hO.h40
    have h2 := hO.h2
    have el : r = c - (i + 1) := by omega
    rw [if_neg (Nat.succ_ne_zero r), Nat.add_sub_cancel]
    have eg : (c - (i + 1) + 1) = c - i := by omega
    unfold wpX4_weigh_L81
    have a : ¬ nI r < 0 := nI_pos (by omega)
    refine ⟨fun z => absurd z a, fun _ => ?_⟩
    have main : ∀ isF : Bool, isF = decide (r = 0) → wpX4_weigh_b96 rob (nI (dH d)) (nI (dL d)) costs rows a2 (nI c) Post (wpX4_weigh_L81 rob (nI (dH d)) (nI (dL d)) costs rows a2 (nI c) Post (r + 1)) ends rest (bI (dB d p)) (bI (decide (0 < p) && dHd d (p - 1))) (nI r) (bI isF) := by
      intro isF hF
      have go : ∀ hg : Bool, hg = isHg d p r → wpX4_weigh_b126 rob (nI (dH d)) (nI (dL d)) costs rows a2 (nI c) Post (wpX4_weigh_L81 rob (nI (dH d)) (nI (dL d)) costs rows a2 (nI c) Post (r + 1)) ends rest (bI (dB d p)) (bI (decide (0 < p) && dHd d (p - 1))) (nI r) (bI isF) ((nI r + 1) * 41) (nI r) (nI c) (bI hg) := by
        intro hg ehg
        unfold wpX4_weigh_b126
        rw [beginCost_e hC (by omega) (by omega), nI_1, li41, pk_mul, nI_1, get_e (by omega) (by decide)]
        have e1 : rest ((r + 1) * 41 + 1) = nI (Wl d p c nx i 1) := by
          rw [show (r + 1) = c - i by omega]
          exact hA.1 i (Nat.le_refl _) 1 (by omega)
        rw [e1, nI_add]
        refine ⟨dH d + 1 + 1, ?_⟩
        have key := weigh_in (rob := rob) (rows := rows) (a2 := a2) (a3 := nI c) (Post := Post) (K81 := wpX4_weigh_L81 rob (nI (dH d)) (nI (dL d)) costs rows a2 (nI c) Post (r + 1)) (x5 := bI (decide (0 < p) && dHd d (p - 1))) (i := i) hO hC hnx hc (by omega) rfl (x7 := bI isF) (by rw [hF, el]) (fun ends' rest' hA' => by
          have ih := weigh_L (a2 := a2) hO hC hnx hc h r (i + 1) ends' rest' (by omega) hA'
          rw [← el]
          by_cases g : r = 0
          · rw [if_pos g] at ih
            rw [show nI r + (-1) = (-1 : Int32) by rw [g]; decide]
            exact ih
          · rw [if_neg g] at ih
            rw [nI_m1 (by omega)]
            exact ih) (dH d + 1) 0 ends rest (by omega) hA (fun m hm => absurd hm (Nat.not_lt_zero _))
        rw [← el, show c - i = r + 1 by omega] at key
        unfold bC at key
        rw [← ehg] at key
        exact key
      unfold wpX4_weigh_b96 wpX4_weigh_b125
      subst hF
      by_cases g : r = 0
      · cases hh : (decide (0 < p) && dHd d (p - 1))
        · have := go false (by unfold isHg; rw [decide_eq_true g, hh]; rfl)
          rw [hh] at this
          rw [decide_eq_true g] at this ⊢
          exact ⟨fun z => absurd z (by decide), fun _ => ⟨fun _ => this, fun z => absurd rfl z⟩⟩
        · have := go true (by unfold isHg; rw [decide_eq_true g, hh]; rfl)
          rw [hh] at this
          rw [decide_eq_true g] at this ⊢
          exact ⟨fun z => absurd z (by decide), fun _ => ⟨fun z => absurd z (by decide), fun _ => this⟩⟩
      · have := go false (by unfold isHg; rw [decide_eq_false g]; rfl)
        rw [decide_eq_false g] at this ⊢
        exact ⟨fun _ => this, fun z => absurd rfl z⟩
    by_cases g : r = 0
    · have := main true (by rw [decide_eq_true g])
      exact ⟨fun z => absurd (by rw [g]; rfl) z, fun _ => this⟩
    · have := main false (by rw [decide_eq_false g])
      exact ⟨fun _ => this, fun z => absurd z (nI_ne0 (by omega) (by omega))⟩
theorem weigh_copy {nx : Nat → Nat} {Post : (Nat → Int32) → (Nat → Int32) → Prop} (hO : OkB d) (hC : CCosts d costs) (hnx : ∀ n, nx n ≤ 21098880) (hp : p < 16) (hc : c ≤ 30) (hr : ∀ n, n ≤ dH d → rob ((p + 1) * 41 + n) = nI (nx n))
    (h : ∀ ends rest, WA d p c nx c ends rest → Post ends rest) :
    ∀ (r n : Nat) (ends rest : Nat → Int32), n + r = dH d + 1 → (∀ m, m < n → rest (c * 41 + m) = nI (nx m)) →
      wpX4_weigh_L31 rob (nI (dH d)) (nI (dL d)) costs rows (nI p) (nI c) Post (r + 1) ends rest (bI (dB d p)) (bI (decide (0 < p) && dHd d (p - 1))) (nI n)
  | 0, n, ends, rest, hn, hA => by
    have h40 := hO.h40
    unfold wpX4_weigh_L31
    have a : nI (dH d) < nI n := by rw [nI_ltI (by omega) (by omega)]; omega
    refine ⟨fun _ => ⟨c + 1, ?_⟩, fun z => absurd a z⟩
    have := weigh_L (rob := rob) (rows := rows) (a2 := nI p) hO hC hnx hc h c 0 ends rest (by omega) ⟨fun i' hi' m hm => by
      rw [show i' = 0 by omega]; exact hA m (by omega), fun i' hi' => absurd hi' (Nat.not_lt_zero _)⟩
    by_cases g : c = 0
    · rw [if_pos g] at this
      rw [show nI c - 1 = (-1 : Int32) by rw [g]; decide]
      exact this
    · rw [if_neg g] at this
      rw [li1, sm_sub (by omega)]
      exact this
  | r + 1, n, ends, rest, hn, hA => by
    have h40 := hO.h40
    unfold wpX4_weigh_L31
    have a : ¬ nI (dH d) < nI n := by rw [nI_ltI (by omega) (by omega)]; omega
    refine ⟨fun z => absurd z a, fun _ => ?_⟩
    rw [nI_1, li41, pk_mul, nI_add, get_e (by omega) (by decide), pk_mul, nI_add, put_e (by omega) (by decide), nI_1, hr n (by omega)]
    refine weigh_copy hO hC hnx hp hc hr h r (n + 1) ends _ (by omega) (fun m hm => ?_)
    by_cases g : m = n
    · subst g; rw [pk_us]
    · rw [pk_un (by omega)]; exact hA m (by omega)
theorem weigh_s {nx : Nat → Nat} {ends rest : Nat → Int32} {Post : (Nat → Int32) → (Nat → Int32) → Prop} (hO : OkB d) (hC : CCosts d costs) (hR : CRows d rows) (hnx : ∀ n, nx n ≤ 21098880) (hp : p < dP d) (hc : c ≤ 30) (hr : ∀ n, n ≤ dH d → rob ((p + 1) * 41 + n) = nI (nx n))
    (h : ∀ ends rest, WA d p c nx c ends rest → Post ends rest) : wpX4_weigh ends rest rob (nI (dH d)) (nI (dL d)) costs rows (nI p) (nI c) Post := by
  have h16 := hO.p16
  unfold wpX4_weigh wpX4_weigh_b25 wpX4_weigh_b26
  rw [beginsPage_e hO hR hp]
  have key := weigh_copy (rob := rob) (rows := rows) (p := p) hO hC hnx (by omega) hc hr h (dH d + 1) 0 ends rest (by omega) (fun m hm => absurd hm (Nat.not_lt_zero _))
  by_cases g : p = 0
  · rw [show (decide (0 < p) && dHd d (p - 1)) = false by rw [decide_eq_false (by omega)]; rfl] at key
    exact ⟨fun _ => ⟨_, key⟩, fun z => absurd (by rw [g]; decide) z⟩
  · have a : ¬ nI p ≤ 0 := nI_nle (by omega) (by omega)
    refine ⟨fun z => absurd z a, fun _ => ?_⟩
    rw [li1, sm_sub (by omega), isHeading_e hO hR (by omega)]
    rw [decide_eq_true (show 0 < p by omega), Bool.true_and] at key
    cases hh : dHd d (p - 1)
    · rw [hh] at key
      exact ⟨fun _ => ⟨_, key⟩, fun z => absurd rfl z⟩
    · rw [hh] at key
      exact ⟨fun z => absurd z (by decide), fun _ => ⟨_, key⟩⟩
end CWG
