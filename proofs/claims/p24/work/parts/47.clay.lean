/-! THE CLASS'S PLANNER: chooseSettings, lay -/
def bbst (f : Nat → Nat) (from_ : Nat) : Nat → Nat
  | 0 => from_
  | j + 1 => if f (from_ + (j + 1)) < f (bbst f from_ j) then from_ + (j + 1) else bbst f from_ j
/-- what the planner has chosen for paragraph p -/
def CH (d : Nat → Int32) (p : Nat) (b v : Nat → Nat) (chosen rob : Nat → Int32) : Prop := ∀ m, m ≤ dH d → rob (p * 41 + m) = nI (v m) ∧ chosen (p * 41 + m) = nI (b m)
def Far (p : Nat) (a b : Nat → Int32) : Prop := ∀ j, (j < p * 41 ∨ p * 41 + 41 ≤ j) → b j = a j
theorem VR_at {d : Nat → Int32} {p : Nat} (hp : p < dP d) (n : Nat) : VR d (dP d - p) n = cS d p (VR d (dP d - (p + 1))) (bS d p (VR d (dP d - (p + 1))) n) n := by
  have e : dP d - p = (dP d - (p + 1)) + 1 := by omega
  rw [e]
  show cS d (dP d - (dP d - (p + 1) + 1)) _ _ n = _
  rw [show dP d - (dP d - (p + 1) + 1) = p by omega]
section CLY
variable {d : Nat → Int32} {rows costs counts : Nat → Int32} {p : Nat}
theorem choose_in {H L a3 x6 : Int32} {Post : (Nat → Int32) → (Nat → Int32) → (Nat → Int32) → (Nat → Int32) → Prop} {K39 : (Nat → Int32) → (Nat → Int32) → (Nat → Int32) → (Nat → Int32) → Int32 → Int32 → Int32 → Prop} {from_ s own : Nat} {ends rest chosen0 rob0 : Nat → Int32} {g b v b' v' : Nat → Nat}
    (hH : H = nI (dH d)) (h40 : dH d ≤ 40) (ha : a3 = nI p) (hp : p < 16) (hfr : from_ < 3) (hs : s < 3) (hrest : ∀ m, m ≤ dH d → rest m = nI (g m)) (hsm : ∀ m, own + g m < 2 ^ 31 ∧ v m < 2 ^ 31)
    (hnew : ∀ m, m ≤ dH d → (s = from_ → b' m = s ∧ v' m = own + g m) ∧ (s ≠ from_ → (own + g m < v m → b' m = s ∧ v' m = own + g m) ∧ (v m ≤ own + g m → b' m = b m ∧ v' m = v m)))
    (hK : ∀ chosen rob, CH d p b' v' chosen rob → Far p chosen0 chosen → Far p rob0 rob → K39 chosen ends rest rob (nI from_) x6 (nI (s + 1))) :
    ∀ (r n : Nat) (chosen rob : Nat → Int32), n + r = dH d + 1 → (∀ m, m < n → rob (p * 41 + m) = nI (v' m) ∧ chosen (p * 41 + m) = nI (b' m)) → (∀ m, n ≤ m → m ≤ dH d → s ≠ from_ → rob (p * 41 + m) = nI (v m) ∧ chosen (p * 41 + m) = nI (b m)) → Far p chosen0 chosen → Far p rob0 rob →
      wpX4_chooseSettings_L76 H L costs rows counts a3 Post K39 (r + 1) chosen ends rest rob (nI from_) x6 (nI s) (nI own) (nI n)
  | 0, n, chosen, rob, hn, hA, hB, f1, f2 => by
    unfold wpX4_chooseSettings_L76
    have a : H < nI n := by rw [hH, nI_ltI (by omega) (by omega)]; omega
    refine ⟨fun _ => ?_, fun z => absurd a z⟩
    rw [nI_1]
    exact hK _ _ (fun m hm => hA m (by omega)) f1 f2
  | r + 1, n, chosen, rob, hn, hA, hB, f1, f2 => by
    unfold wpX4_chooseSettings_L76
    have hnH : n ≤ dH d := by omega
    have a : ¬ H < nI n := by rw [hH, nI_ltI (by omega) (by omega)]; omega
    have hs1 := hsm n
    refine ⟨fun z => absurd z a, fun _ => ?_⟩
    rw [get_e (by omega) (by decide), hrest n hnH, nI_add]
    have wr : b' n = s ∧ v' n = own + g n → wpX4_chooseSettings_b129 H L costs rows counts a3 Post K39 (wpX4_chooseSettings_L76 H L costs rows counts a3 Post K39 (r + 1)) chosen ends rest rob (nI from_) x6 (nI s) (nI own) (nI n) (nI (own + g n)) ((a3 * (41 : Int32)) + nI n) := by
      intro hw
      unfold wpX4_chooseSettings_b129 wpX4_chooseSettings_b151
      rw [ha, li41, pk_mul, nI_add, put_e (by omega) (by decide), put_e (by omega) (by decide), nI_1]
      have ih := choose_in (L := L) (Post := Post) hH h40 ha hp hfr hs hrest hsm hnew hK r (n + 1) (upd chosen (p * 41 + n) (nI s)) (upd rob (p * 41 + n) (nI (own + g n))) (by omega) (fun m hm => by
        by_cases e : m = n
        · subst e; rw [pk_us, pk_us, hw.1, hw.2]; exact ⟨rfl, rfl⟩
        · rw [pk_un (by omega), pk_un (by omega)]; exact hA m (by omega)) (fun m h1 h2 h3 => by
        rw [pk_un (by omega), pk_un (by omega)]; exact hB m (by omega) h2 h3) (fun j hj => by rw [pk_un (by omega)]; exact f1 j hj) (fun j hj => by rw [pk_un (by omega)]; exact f2 j hj)
      rw [ha] at ih
      exact ih
    have skip : b' n = b n ∧ v' n = v n → s ≠ from_ → wpX4_chooseSettings_b151 H L costs rows counts a3 Post K39 (wpX4_chooseSettings_L76 H L costs rows counts a3 Post K39 (r + 1)) chosen ends rest rob (nI from_) x6 (nI s) (nI own) (nI n) := by
      intro hw hne
      unfold wpX4_chooseSettings_b151
      rw [nI_1]
      exact choose_in hH h40 ha hp hfr hs hrest hsm hnew hK r (n + 1) chosen rob (by omega) (fun m hm => by
        by_cases e : m = n
        · subst e; rw [hw.1, hw.2]; exact hB m (Nat.le_refl _) hnH hne
        · exact hA m (by omega)) (fun m h1 h2 h3 => hB m (by omega) h2 h3) f1 f2
    refine ⟨fun e => ?_, fun e => ?_⟩
    · exact wr ((hnew n hnH).1 ((nI_eq (by omega) (by omega)).mp e))
    · have hne : s ≠ from_ := fun z => e (by rw [z])
      have hB0 := hB n (Nat.le_refl _) hnH hne
      rw [show (a3 * (41 : Int32)) + nI n = nI (p * 41 + n) by rw [ha, li41, pk_mul, nI_add], get_e (by omega) (by decide), hB0.1, nI_leI (by omega) (by omega)]
      refine ⟨fun z => skip (((hnew n hnH).2 hne).2 z) hne, fun z => ?_⟩
      have := wr (((hnew n hnH).2 hne).1 (by omega))
      rw [show (a3 * (41 : Int32)) + nI n = nI (p * 41 + n) by rw [ha, li41, pk_mul, nI_add]] at this
      exact this
theorem choose_L {nx : Nat → Nat} {taken : Nat → Int32} {Post : (Nat → Int32) → (Nat → Int32) → (Nat → Int32) → (Nat → Int32) → Prop} {from_ to_ : Nat} {chosen0 rob0 : Nat → Int32} (hO : OkB d) (hC : CCosts d costs) (hR : CRows d rows) (hL : CL d counts taken) (hnx : ∀ n, nx n ≤ 21098880) (hp : p < dP d) (hft : from_ ≤ to_) (ht : to_ < 3) (hr : ∀ n, n ≤ dH d → rob0 ((p + 1) * 41 + n) = nI (nx n))
    (h : ∀ chosen ends rest rob, CH d p (fun n => bbst (fun s => cS d p nx s n) from_ (to_ - from_)) (fun n => cS d p nx (bbst (fun s => cS d p nx s n) from_ (to_ - from_)) n) chosen rob → Far p chosen0 chosen → Far p rob0 rob → Post chosen ends rest rob) :
    ∀ (r j : Nat) (chosen ends rest rob : Nat → Int32), j + r = to_ - from_ + 1 → (0 < j → CH d p (fun n => bbst (fun s => cS d p nx s n) from_ (j - 1)) (fun n => cS d p nx (bbst (fun s => cS d p nx s n) from_ (j - 1)) n) chosen rob) → Far p chosen0 chosen → Far p rob0 rob →
      wpX4_chooseSettings_L39 (nI (dH d)) (nI (dL d)) costs rows counts (nI p) Post (r + 1) chosen ends rest rob (nI from_) (nI to_) (nI (from_ + j))
  | 0, j, chosen, ends, rest, rob, hj, hA, f1, f2 => by
    unfold wpX4_chooseSettings_L39
    have a : nI to_ < nI (from_ + j) := by rw [nI_ltI (by omega) (by omega)]; omega
    refine ⟨fun _ => ?_, fun z => absurd a z⟩
    have := hA (by omega)
    rw [show j - 1 = to_ - from_ by omega] at this
    exact h _ _ _ _ this f1 f2
  | r + 1, j, chosen, ends, rest, rob, hj, hA, f1, f2 => by
    have h16 := hO.p16
    have h40 := hO.h40
    have hs : from_ + j < 3 := by omega
    have hc := cnt_le hO hp (from_ + j)
    unfold wpX4_chooseSettings_L39
    have a : ¬ nI to_ < nI (from_ + j) := by rw [nI_ltI (by omega) (by omega)]; omega
    refine ⟨fun z => absurd z a, fun _ => ?_⟩
    rw [countOf_e hO hL hp hs, settingCost_e hC hs]
    have hr' : ∀ n, n ≤ dH d → rob ((p + 1) * 41 + n) = nI (nx n) := fun n hn => by rw [f2 _ (Or.inr (by omega))]; exact hr n hn
    refine weigh_s hO hC hR hnx hp hc hr' (fun ends' rest' hW => ⟨dH d + 1 + 1, ?_⟩)
    have hb : ∀ s, s < 3 → ∀ n, cS d p nx s n < 2 ^ 31 := fun s hs n => by
      have := cS_le hO hp hs hnx n
      omega
    have hbb : ∀ n j, from_ + j < 3 → bbst (fun s => cS d p nx s n) from_ j < 3 := fun n j => by
      induction j with
      | zero => exact fun h => h
      | succ j ih =>
        intro h3
        unfold bbst
        split
        · exact h3
        · exact ih (by omega)
    refine choose_in (p := p) (chosen0 := chosen0) (rob0 := rob0) (own := sC d (from_ + j) (cnt d p (from_ + j))) (g := fun n => Wl d p (cnt d p (from_ + j)) nx (cnt d p (from_ + j)) n) (b := fun n => bbst (fun s => cS d p nx s n) from_ (j - 1)) (v := fun n => cS d p nx (bbst (fun s => cS d p nx s n) from_ (j - 1)) n) (b' := fun n => bbst (fun s => cS d p nx s n) from_ j) (v' := fun n => cS d p nx (bbst (fun s => cS d p nx s n) from_ j) n) rfl h40 rfl (by omega) (by omega) hs ?_ ?_ ?_ ?_ (dH d + 1) 0 chosen rob (by omega) (fun m hm => absurd hm (Nat.not_lt_zero _)) ?_ f1 f2
    · intro m hm
      have := hW.1 (cnt d p (from_ + j)) (Nat.le_refl _) m hm
      rw [Nat.sub_self, Nat.zero_mul, Nat.zero_add] at this
      exact this
    · exact fun m => ⟨hb _ hs m, hb _ (hbb m (j - 1) (by omega)) m⟩
    · intro m hm
      refine ⟨fun e => ?_, fun e => ⟨fun e2 => ?_, fun e2 => ?_⟩⟩
      · rw [show j = 0 by omega]
        exact ⟨rfl, rfl⟩
      · obtain ⟨i, rfl⟩ : ∃ i, j = i + 1 := ⟨j - 1, by omega⟩
        rw [Nat.add_sub_cancel] at e2
        have eq : bbst (fun s => cS d p nx s m) from_ (i + 1) = from_ + (i + 1) := if_pos e2
        rw [eq]
        exact ⟨rfl, rfl⟩
      · obtain ⟨i, rfl⟩ : ∃ i, j = i + 1 := ⟨j - 1, by omega⟩
        rw [Nat.add_sub_cancel] at e2 ⊢
        have eq : bbst (fun s => cS d p nx s m) from_ (i + 1) = bbst (fun s => cS d p nx s m) from_ i := if_neg (show ¬ cS d p nx (from_ + (i + 1)) m < _ from Nat.not_lt.mpr e2)
        rw [eq]
        exact ⟨rfl, rfl⟩
    · intro chosen' rob' hCH g1 g2
      rw [show from_ + j + 1 = from_ + (j + 1) by omega]
      exact choose_L hO hC hR hL hnx hp hft ht hr h r (j + 1) chosen' ends' rest' rob' (by omega) (fun _ => by rw [Nat.add_sub_cancel]; exact hCH) g1 g2
    · intro m _ hm hne
      exact hA (by omega) m hm
theorem choose_s {nx : Nat → Nat} {taken chosen ends rest rob : Nat → Int32} {Post : (Nat → Int32) → (Nat → Int32) → (Nat → Int32) → (Nat → Int32) → Prop} (hO : OkB d) (hC : CCosts d costs) (hR : CRows d rows) (hL : CL d counts taken) (hnx : ∀ n, nx n ≤ 21098880) (hp : p < dP d) (hr : ∀ n, n ≤ dH d → rob ((p + 1) * 41 + n) = nI (nx n))
    (h : ∀ chosen' ends' rest' rob', CH d p (bS d p nx) (fun n => cS d p nx (bS d p nx n) n) chosen' rob' → Far p chosen chosen' → Far p rob rob' → Post chosen' ends' rest' rob') : wpX4_chooseSettings chosen ends rest rob (nI (dH d)) (nI (dL d)) costs rows counts (nI p) Post := by
  unfold wpX4_chooseSettings wpX4_chooseSettings_b19 wpX4_chooseSettings_b33
  rw [fixedTo_e hO hR hp]
  have ff : Far p chosen chosen := fun _ _ => rfl
  have fr : Far p rob rob := fun _ _ => rfl
  by_cases e : dF d p = -1
  · refine ⟨fun z => absurd e z, fun _ => ⟨fun z => absurd e z, fun _ => ⟨3 + 1, ?_⟩⟩⟩
    have hbs : ∀ n, bS d p nx n = bbst (fun s => cS d p nx s n) 0 2 := fun n => by
      unfold bS
      rw [if_pos e]
      unfold bbst bbst bbst
      by_cases c1 : cS d p nx 1 n < cS d p nx 0 n
      · simp only [c1, if_true, Nat.zero_add]
      · simp only [c1, if_false, Nat.zero_add]
    exact choose_L (from_ := 0) (to_ := 2) hO hC hR hL hnx hp (by decide) (by decide) hr (fun c en rs rb hCH g1 g2 => h c en rs rb (fun m hm => by
      dsimp only
      rw [hbs m]; exact hCH m hm) g1 g2) 3 0 chosen ends rest rob rfl (fun z => absurd z (Nat.lt_irrefl _)) ff fr
  · have one : ∀ k, k < 3 → dF d p = nI k → wpX4_chooseSettings_L39 (nI (dH d)) (nI (dL d)) costs rows counts (nI p) Post (1 + 1) chosen ends rest rob (dF d p) (dF d p) (dF d p) := fun k hk ek => by
      rw [ek]
      have hbs : ∀ n, bS d p nx n = k := fun n => by
        unfold bS
        rw [if_neg e, ek, nz_nI (by omega)]
      refine choose_L (from_ := k) (to_ := k) hO hC hR hL hnx hp (Nat.le_refl _) hk hr (fun c en rs rb hCH g1 g2 => h c en rs rb (fun m hm => by
        rw [Nat.sub_self] at hCH
        dsimp only
        rw [hbs m]; exact hCH m hm) g1 g2) 1 0 chosen ends rest rob (by omega) (fun z => absurd z (Nat.lt_irrefl _)) ff fr
    have any : wpX4_chooseSettings_L39 (nI (dH d)) (nI (dL d)) costs rows counts (nI p) Post (1 + 1) chosen ends rest rob (dF d p) (dF d p) (dF d p) := by
      rcases hO.f hp with z | z | z | z
      · exact absurd z e
      · exact one 0 (by decide) z
      · exact one 1 (by decide) z
      · exact one 2 (by decide) z
    exact ⟨fun _ => ⟨fun _ => ⟨2, any⟩, fun z => absurd z e⟩, fun z => absurd z e⟩
end CLY
