/-! THE REFERENCE: the costs ahead -/
section MCO
variable {d : Nat → Int32} {p k n s c line i : Nat} {W : (Nat → Nat → Nat → Nat → Int32)} {lines : Nat → Nat → Int32} {Post : Int32 → Prop}
theorem stay_m (hO : OkB d) (hp : p < dP d) (hs : s < 3) (hl : line < 30) (hn : n ≤ dH d) : wpX7_stay d W (nI p) (nI s) (nI line) (nI n) Post = Post (if must d (sta d p line) n then nI 1000000000 else W p s (line + 1) (n + 1)) := by
  have h16 := hO.p16
  have h40 := hO.h40
  unfold wpX7_stay
  rw [must_m hO hp (by omega) hn]
  cases hm : must d (sta d p line) n
  · have hlt : n < dH d := by
      rcases Nat.lt_or_ge n (dH d) with g | g
      · exact g
      · rw [must_H hO _ g] at hm; cases hm
    simp (disch := omega) only [li0, li1, li2, li3, li4, li5, li6, li7, li8, li9, li10, li11, li12, li13, li16, li20, li24, li30, li32, li34, li40, li41, li48, li57, li59, li60, li97, li122, li255, li555, li700, li999, li100000, li100000000, li1000000000, nI_add, pk_mul, nI_leI, nI_ltI, nI_eq, nI_clamp, sm_sub, vp_in_T, bI_eq0, bI_eq1, true_and, and_true, true_implies, false_implies, not_true_eq_false, not_false_eq_true, Nat.add_zero, Nat.zero_add, Nat.zero_mul, Nat.mul_zero, bI_f, if_false, reduceCtorEq]
  · simp (disch := omega) only [li0, li1, li2, li3, li4, li5, li6, li7, li8, li9, li10, li11, li12, li13, li16, li20, li24, li30, li32, li34, li40, li41, li48, li57, li59, li60, li97, li122, li255, li555, li700, li999, li100000, li100000000, li1000000000, nI_add, pk_mul, nI_leI, nI_ltI, nI_eq, nI_clamp, sm_sub, vp_in_T, bI_eq0, bI_eq1, true_and, and_true, true_implies, false_implies, not_true_eq_false, not_false_eq_true, Nat.add_zero, Nat.zero_add, Nat.zero_mul, Nat.mul_zero, bI_t, if_true, reduceCtorEq]
theorem turn_m (hO : OkB d) (hM : MLn d lines) (hp : p < dP d) (hs : s < 3) (hl : line < cnt d p s) (hn : n ≤ dH d) : wpX7_turn d lines W (nI p) (nI s) (nI line) (nI n) Post = Post (if must d (sta d p line) n || canE d n then nI (eC d (sta d p line) n + bC d p line (cnt d p s)) + W p s (line + 1) 1 else nI 1000000000) := by
  have h16 := hO.p16
  have hc := cnt_le hO hp s
  unfold wpX7_turn wpX7_turn_b23
  rw [must_m hO hp (by omega) hn, can_m hO hn, endCost_m hO hp (by omega) hn]
  simp (disch := omega) only [li0, li1, li2, li3, li4, li5, li6, li7, li8, li9, li10, li11, li12, li13, li16, li20, li24, li30, li32, li34, li40, li41, li48, li57, li59, li60, li97, li122, li255, li555, li700, li999, li100000, li100000000, li1000000000, nI_add, pk_mul, nI_leI, nI_ltI, nI_eq, nI_clamp, sm_sub, vp_in_T, bI_eq0, bI_eq1, true_and, and_true, true_implies, false_implies, not_true_eq_false, not_false_eq_true, Nat.add_zero, Nat.zero_add, Nat.zero_mul, Nat.mul_zero, hM p hp s hs, beginCost_m hO hp hl]
  cases must d (sta d p line) n <;> cases canE d n <;> simp only [not_true_eq_false, not_false_eq_true, false_implies, true_implies, true_and, and_true, reduceCtorEq, Bool.or_false, Bool.false_or, Bool.true_or, Bool.or_true, if_true, if_false]
/-- the table within, for paragraph p in setting s, i lines from its end -/
def WI (d : Nat → Int32) (p s : Nat) (nx : Nat → Nat) (i : Nat) (W : (Nat → Nat → Nat → Nat → Int32)) : Prop := ∀ i', i' ≤ i → ∀ m, m ≤ dH d → W p s (cnt d p s - i') m = nI (Wl d p (cnt d p s) nx i' m)
def WFar (p s : Nat) (W W' : (Nat → Nat → Nat → Nat → Int32)) : Prop := ∀ a b, (a ≠ p ∨ b ≠ s) → ∀ c e, W' a b c e = W a b c e
theorem WFar.trans {p s : Nat} {A B C : (Nat → Nat → Nat → Nat → Int32)} (h : WFar p s A B) (g : WFar p s B C) : WFar p s A C := fun a b hh c e => (g a b hh c e).trans (h a b hh c e)
theorem updW_far {p s l n : Nat} {x : Int32} : WFar p s W (updW W p s l n x) := fun a b h c e => by
  unfold updW
  rw [if_neg (by omega)]
theorem updW_s {p s l n : Nat} {x : Int32} : updW W p s l n x p s l n = x := if_pos ⟨rfl, rfl, rfl, rfl⟩
theorem updW_n {p s l n a b : Nat} {x : Int32} (h : a ≠ l ∨ b ≠ n) : updW W p s l n x p s a b = W p s a b := by
  unfold updW
  rw [if_neg (by omega)]
theorem costs_n {nx : Nat → Nat} {Post : (Nat → Int32) → (Nat → Nat → Int32) → (Nat → Nat → Int32) → (Nat → Nat → Nat → Nat → Int32) → Prop} {K44 : (Nat → Int32) → (Nat → Nat → Int32) → (Nat → Nat → Int32) → (Nat → Nat → Nat → Nat → Int32) → Int32 → Int32 → Prop} {K51 : (Nat → Int32) → (Nat → Nat → Int32) → (Nat → Nat → Int32) → (Nat → Nat → Nat → Nat → Int32) → Int32 → Int32 → Int32 → Prop} {K115 : (Nat → Int32) → (Nat → Nat → Int32) → (Nat → Nat → Int32) → (Nat → Nat → Nat → Nat → Int32) → Int32 → Int32 → Int32 → Int32 → Prop} {ll : Nat → Int32} {CA : Nat → Nat → Int32} {W0 : (Nat → Nat → Nat → Nat → Int32)}
    (hO : OkB d) (hM : MLn d lines) (hp : p < dP d) (hs : s < 3) (hnx : ∀ n, nx n ≤ 21098880) (hi : i < cnt d p s)
    (hK : ∀ W, WI d p s nx (i + 1) W → WFar p s W0 W → K115 ll lines CA W (nI (dH d)) (nI p) (nI s) (nI (cnt d p s - (i + 1)) + (-1))) :
    ∀ (r n : Nat) (W : (Nat → Nat → Nat → Nat → Int32)), n + r = dH d + 1 → WI d p s nx i W → (∀ m, m < n → W p s (cnt d p s - (i + 1)) m = nI (Wl d p (cnt d p s) nx (i + 1) m)) → WFar p s W0 W →
      wpX7_layCosts_L123 d Post K44 K51 K115 (r + 1) ll lines CA W (nI (dH d)) (nI p) (nI s) (nI (cnt d p s - (i + 1))) (nI n)
  | 0, n, W, hn, hA, hB, hF => by
    have h40 := hO.h40
    unfold wpX7_layCosts_L123
    have a : nI (dH d) < nI n := by rw [nI_ltI (by omega) (by omega)]; omega
    refine ⟨fun _ => hK W (fun i' hi' m hm => ?_) hF, fun z => absurd a z⟩
    rcases Nat.lt_or_ge i' (i + 1) with g | g
    · exact hA i' (by omega) m hm
    · rw [show i' = i + 1 by omega]; exact hB m (by omega)
  | r + 1, n, W, hn, hA, hB, hF => by
    have h16 := hO.p16
    have h40 := hO.h40
    have h2 := hO.h2
    have hc := cnt_le hO hp s
    have hnH : n ≤ dH d := by omega
    unfold wpX7_layCosts_L123
    have a : ¬ nI (dH d) < nI n := by rw [nI_ltI (by omega) (by omega)]; omega
    refine ⟨fun z => absurd z a, fun _ => ⟨vp_in_nI (by omega) (by decide), vp_in_nI (by omega) (by decide), vp_in_nI (by omega) (by decide), ?_⟩⟩
    rw [stay_m hO hp hs (by omega) hnH, turn_m hO hM hp hs (by omega) hnH]
    have el : cnt d p s - (i + 1) + 1 = cnt d p s - i := by omega
    rw [el, hA i (Nat.le_refl _) 1 (by omega), nI_add]
    have b0 := eC_le hO (sta d p (cnt d p s - (i + 1))) n
    have b1 := bC_le hO p (cnt d p s - (i + 1)) (cnt d p s)
    have b2 := Wl_le hO p (cnt d p s) hnx i 1
    have b3 := Wl_le hO p (cnt d p s) hnx i (n + 1)
    have b4 : i * 42957 ≤ 1288710 := Nat.le_trans (Nat.mul_le_mul_right _ (show i ≤ 30 by omega)) (by decide)
    generalize i * 42957 = X at b2 b3 b4
    -- what is written
    have val : ∀ (u v : Nat), u < 2 ^ 31 → v < 2 ^ 31 → min u v = Wl d p (cnt d p s) nx (i + 1) n → wpX7_min (nI u) (nI v) (fun r_17 => vp_in (nI n) 41 ∧ (wpX7_layCosts_L123 d Post K44 K51 K115 (r + 1)) ll lines CA (updW W (nI p).toNatClampNeg (nI s).toNatClampNeg (nI (cnt d p s - (i + 1))).toNatClampNeg (nI n).toNatClampNeg r_17) (nI (dH d)) (nI p) (nI s) (nI (cnt d p s - (i + 1))) (nI n + (1 : Int32))) := by
      intro u v hu hv e
      rw [min_e hu hv, e, nI_clamp (by omega), nI_clamp (by omega), nI_clamp (by omega), nI_clamp (by omega), nI_1]
      refine ⟨vp_in_nI (by omega) (by decide), ?_⟩
      refine costs_n hO hM hp hs hnx hi hK r (n + 1) _ (by omega) (fun i' hi' m hm => ?_) (fun m hm => ?_) (hF.trans updW_far)
      · rw [updW_n (by omega)]; exact hA i' hi' m hm
      · by_cases g : m = n
        · subst g; rw [updW_s]
        · rw [updW_n (by omega)]; exact hB m (by omega)
    have hen : en d p (cnt d p s) nx i n = (must d (sta d p (cnt d p s - (i + 1))) n || (canE d n && decide (eC d (sta d p (cnt d p s - (i + 1))) n + (bC d p (cnt d p s - (i + 1)) (cnt d p s) + Wl d p (cnt d p s) nx i 1) < Wl d p (cnt d p s) nx i (n + 1)))) := rfl
    cases hm : must d (sta d p (cnt d p s - (i + 1))) n
    · have hlt : n < dH d := by
        rcases Nat.lt_or_ge n (dH d) with g | g
        · exact g
        · rw [must_H hO _ g] at hm; cases hm
      rw [hA i (Nat.le_refl _) (n + 1) (by omega)]
      rw [hm, Bool.false_or] at hen
      cases hcn : canE d n
      · rw [hcn, Bool.false_and] at hen
        refine val _ _ (by omega) (by decide) ?_
        rw [Wl_en, hen, Nat.min_eq_left (by omega)]
        rfl
      · rw [hcn, Bool.true_and] at hen
        refine val _ _ (by omega) (by omega) ?_
        rw [Wl_en, hen]
        by_cases g : eC d (sta d p (cnt d p s - (i + 1))) n + (bC d p (cnt d p s - (i + 1)) (cnt d p s) + Wl d p (cnt d p s) nx i 1) < Wl d p (cnt d p s) nx i (n + 1)
        · rw [decide_eq_true g, if_pos rfl, Nat.min_eq_right (by omega)]
          omega
        · rw [decide_eq_false g, if_neg (by decide), Nat.min_eq_left (by omega)]
    · rw [hm, Bool.true_or] at hen
      refine val _ _ (by decide) (by omega) ?_
      rw [Wl_en, hen, if_pos rfl, Nat.min_eq_right (by omega)]
      omega
theorem costs_l {nx : Nat → Nat} {Post : (Nat → Int32) → (Nat → Nat → Int32) → (Nat → Nat → Int32) → (Nat → Nat → Nat → Nat → Int32) → Prop} {K44 : (Nat → Int32) → (Nat → Nat → Int32) → (Nat → Nat → Int32) → (Nat → Nat → Nat → Nat → Int32) → Int32 → Int32 → Prop} {K51 : (Nat → Int32) → (Nat → Nat → Int32) → (Nat → Nat → Int32) → (Nat → Nat → Nat → Nat → Int32) → Int32 → Int32 → Int32 → Prop} {ll : Nat → Int32} {CA : Nat → Nat → Int32} {W0 : (Nat → Nat → Nat → Nat → Int32)}
    (hO : OkB d) (hM : MLn d lines) (hp : p < dP d) (hs : s < 3) (hnx : ∀ n, nx n ≤ 21098880)
    (hK : ∀ W, WI d p s nx (cnt d p s) W → WFar p s W0 W → K51 ll lines CA W (nI (dH d)) (nI p) (nI (s + 1))) :
    ∀ (r i : Nat) (W : (Nat → Nat → Nat → Nat → Int32)), i + r = cnt d p s → WI d p s nx i W → WFar p s W0 W →
      wpX7_layCosts_L115 d Post K44 K51 (r + 1) ll lines CA W (nI (dH d)) (nI p) (nI s) (if r = 0 then (-1) else nI (r - 1))
  | 0, i, W, hi, hA, hF => by
    unfold wpX7_layCosts_L115
    refine ⟨fun _ => ?_, fun z => absurd (by decide) z⟩
    rw [nI_1]
    rw [show i = cnt d p s by omega] at hA
    exact hK W hA hF
  | r + 1, i, W, hi, hA, hF => by
    have hc := cnt_le hO hp s
    rw [if_neg (Nat.succ_ne_zero r), Nat.add_sub_cancel]
    unfold wpX7_layCosts_L115
    refine ⟨fun z => absurd z (nI_pos (by omega)), fun _ => ⟨dH d + 1 + 1, ?_⟩⟩
    have key := costs_n (Post := Post) (K44 := K44) (K51 := K51) (K115 := wpX7_layCosts_L115 d Post K44 K51 (r + 1)) (ll := ll) (CA := CA) (W0 := W0) (i := i) hO hM hp hs hnx (by omega) (fun W' hW' hF' => by
      have ih := costs_l (Post := Post) (K44 := K44) hO hM hp hs hnx hK r (i + 1) W' (by omega) hW' hF'
      by_cases g : r = 0
      · rw [if_pos g] at ih
        rw [show nI (cnt d p s - (i + 1)) + (-1) = (-1 : Int32) by rw [show cnt d p s - (i + 1) = 0 by omega]; decide]
        exact ih
      · rw [if_neg g] at ih
        rw [nI_m1 (by omega), show cnt d p s - (i + 1) - 1 = r - 1 by omega]
        exact ih) (dH d + 1) 0 W (by omega) hA (fun m hm => absurd hm (Nat.not_lt_zero _)) hF
    rw [show cnt d p s - (i + 1) = r by omega] at key
    exact key
theorem costs_c {nx : Nat → Nat} {Post : (Nat → Int32) → (Nat → Nat → Int32) → (Nat → Nat → Int32) → (Nat → Nat → Nat → Nat → Int32) → Prop} {K44 : (Nat → Int32) → (Nat → Nat → Int32) → (Nat → Nat → Int32) → (Nat → Nat → Nat → Nat → Int32) → Int32 → Int32 → Prop} {K51 : (Nat → Int32) → (Nat → Nat → Int32) → (Nat → Nat → Int32) → (Nat → Nat → Nat → Nat → Int32) → Int32 → Int32 → Int32 → Prop} {ll : Nat → Int32} {CA : Nat → Nat → Int32} {W0 : (Nat → Nat → Nat → Nat → Int32)}
    (hO : OkB d) (hM : MLn d lines) (hp : p < dP d) (hs : s < 3) (hnx : ∀ n, nx n ≤ 21098880) (hCA : ∀ m, m ≤ dH d → CA (p + 1) m = nI (nx m))
    (hK : ∀ W, WI d p s nx (cnt d p s) W → WFar p s W0 W → K51 ll lines CA W (nI (dH d)) (nI p) (nI (s + 1))) :
    ∀ (r n : Nat) (W : (Nat → Nat → Nat → Nat → Int32)), n + r = dH d + 1 → (∀ m, m < n → W p s (cnt d p s) m = nI (nx m)) → WFar p s W0 W →
      wpX7_layCosts_L71 d Post K44 K51 (r + 1) ll lines CA W (nI (dH d)) (nI p) (nI s) (nI (cnt d p s)) (nI n)
  | 0, n, W, hn, hA, hF => by
    have h40 := hO.h40
    have hc := cnt_le hO hp s
    have hc1 := cnt_pos hO hp s
    unfold wpX7_layCosts_L71
    have a : nI (dH d) < nI n := by rw [nI_ltI (by omega) (by omega)]; omega
    refine ⟨fun _ => ⟨cnt d p s + 1, ?_⟩, fun z => absurd a z⟩
    have := costs_l (Post := Post) (K44 := K44) hO hM hp hs hnx hK (cnt d p s) 0 W (by omega) (fun i' hi' m hm => by
      rw [show i' = 0 by omega]; exact hA m (by omega)) hF
    rw [if_neg (by omega)] at this
    rw [li1, sm_sub hc1]
    exact this
  | r + 1, n, W, hn, hA, hF => by
    have h16 := hO.p16
    have h40 := hO.h40
    have hc := cnt_le hO hp s
    unfold wpX7_layCosts_L71
    have a : ¬ nI (dH d) < nI n := by rw [nI_ltI (by omega) (by omega)]; omega
    refine ⟨fun z => absurd z a, fun _ => ?_⟩
    rw [nI_1, nI_1, nI_clamp (by omega), nI_clamp (by omega), nI_clamp (by omega), nI_clamp (by omega), nI_clamp (by omega), hCA n (by omega)]
    refine ⟨vp_in_nI (by omega) (by decide), vp_in_nI (by omega) (by decide), vp_in_nI (by omega) (by decide), vp_in_nI (by omega) (by decide), vp_in_nI (by omega) (by decide), vp_in_nI (by omega) (by decide), ?_⟩
    refine costs_c hO hM hp hs hnx hCA hK r (n + 1) _ (by omega) (fun m hm => ?_) (hF.trans updW_far)
    by_cases g : m = n
    · subst g; rw [updW_s]
    · rw [updW_n (by omega)]; exact hA m (by omega)
end MCO
