/-! THE REFERENCE: layCosts -/
def accM (d : Nat → Int32) (p : Nat) (nx : Nat → Nat) (n : Nat) : Nat → Nat
  | 0 => 1000000000
  | s + 1 => if alw d p s then min (accM d p nx n s) (cS d p nx s n) else accM d p nx n s
theorem accM_le (d : Nat → Int32) (p : Nat) (nx : Nat → Nat) (n : Nat) : ∀ s, accM d p nx n s ≤ 1000000000
  | 0 => Nat.le_refl _
  | s + 1 => by
    have := accM_le d p nx n s
    unfold accM
    split
    · omega
    · exact this
theorem alw_free {d : Nat → Int32} {p : Nat} (h : dF d p = -1) (s : Nat) : alw d p s = true := by unfold alw; rw [decide_eq_true h]; rfl
theorem alw_fix {d : Nat → Int32} {p k s : Nat} (h : dF d p = nI k) (hk : k < 3) (hs : s < 3) : alw d p s = decide (k = s) := by
  unfold alw
  rw [h, decide_eq_false (fun z => by rw [nI_ne_m1 (by omega)] at z; exact z), Bool.false_or]
  by_cases g : k = s
  · rw [decide_eq_true g, decide_eq_true (by rw [g])]
  · rw [decide_eq_false g, decide_eq_false (fun z => g ((nI_eq (by omega) (by omega)).mp z))]
theorem accM_3 {d : Nat → Int32} (hO : OkB d) {p : Nat} (hp : p < dP d) {nx : Nat → Nat} (hnx : ∀ n, nx n ≤ 21098880) (n : Nat) : accM d p nx n 3 = cS d p nx (bS d p nx n) n := by
  have c0 := cS_le hO hp (show 0 < 3 by decide) hnx n
  have c1 := cS_le hO hp (show 1 < 3 by decide) hnx n
  have c2 := cS_le hO hp (show 2 < 3 by decide) hnx n
  by_cases e : dF d p = -1
  · have ea : accM d p nx n 3 = min (min (min 1000000000 (cS d p nx 0 n)) (cS d p nx 1 n)) (cS d p nx 2 n) := by
      unfold accM accM accM accM
      rw [alw_free e, alw_free e, alw_free e]
      rfl
    rw [ea]
    unfold bS
    rw [if_pos e]
    by_cases g1 : cS d p nx 1 n < cS d p nx 0 n
    · rw [if_pos g1]
      by_cases g2 : cS d p nx 2 n < cS d p nx 1 n
      · rw [if_pos g2]; omega
      · rw [if_neg g2]; omega
    · rw [if_neg g1]
      by_cases g2 : cS d p nx 2 n < cS d p nx 0 n
      · rw [if_pos g2]; omega
      · rw [if_neg g2]; omega
  · have one : ∀ k, k < 3 → dF d p = nI k → accM d p nx n 3 = cS d p nx (bS d p nx n) n := fun k hk ek => by
      have eb : bS d p nx n = k := by unfold bS; rw [if_neg e, ek, nz_nI (by omega)]
      have cb := cS_le hO hp hk hnx n
      rw [eb]
      unfold accM accM accM accM
      rw [alw_fix ek hk (by decide), alw_fix ek hk (by decide), alw_fix ek hk (by decide)]
      have : k = 0 ∨ k = 1 ∨ k = 2 := by omega
      rcases this with rfl | rfl | rfl
      · rw [decide_eq_false (by decide), decide_eq_false (by decide), decide_eq_true rfl, if_neg (by decide), if_neg (by decide), if_pos rfl]
        omega
      · rw [decide_eq_false (by decide), decide_eq_true rfl, decide_eq_false (by decide), if_neg (by decide), if_pos rfl, if_neg (by decide)]
        omega
      · rw [decide_eq_true rfl, decide_eq_false (by decide), decide_eq_false (by decide), if_pos rfl, if_neg (by decide), if_neg (by decide)]
        omega
    rcases hO.f hp with z | z | z | z
    · exact absurd z e
    · exact one 0 (by decide) z
    · exact one 1 (by decide) z
    · exact one 2 (by decide) z
section MCQ
variable {d : Nat → Int32} {p : Nat} {lines : Nat → Nat → Int32}
def CFar (p : Nat) (A B : Nat → Nat → Int32) : Prop := ∀ a, a ≠ p → ∀ b, B a b = A a b
def WFarP (p : Nat) (A B : (Nat → Nat → Nat → Nat → Int32)) : Prop := ∀ a, a ≠ p → ∀ b c e, B a b c e = A a b c e
theorem costs_s {nx : Nat → Nat} {Post : (Nat → Int32) → (Nat → Nat → Int32) → (Nat → Nat → Int32) → (Nat → Nat → Nat → Nat → Int32) → Prop} {K44 : (Nat → Int32) → (Nat → Nat → Int32) → (Nat → Nat → Int32) → (Nat → Nat → Nat → Nat → Int32) → Int32 → Int32 → Prop} {K190 : (Nat → Int32) → (Nat → Nat → Int32) → (Nat → Nat → Int32) → (Nat → Nat → Nat → Nat → Int32) → Int32 → Int32 → Int32 → Prop} {ll : Nat → Int32} {CA0 : Nat → Nat → Int32} {W : (Nat → Nat → Nat → Nat → Int32)} {n : Nat}
    (hO : OkB d) (hM : MLn d lines) (hp : p < dP d) (hn : n ≤ dH d) (hnx : ∀ n, nx n ≤ 21098880) (hW : ∀ s, s < 3 → WI d p s nx (cnt d p s) W)
    (hK : ∀ CA, CA p n = nI (cS d p nx (bS d p nx n) n) → (∀ a b, (a ≠ p ∨ b ≠ n) → CA a b = CA0 a b) → K190 ll lines CA W (nI (dH d)) (nI p) (nI (n + 1))) :
    ∀ (r s : Nat) (CA : Nat → Nat → Int32), s + r = 3 → CA p n = nI (accM d p nx n s) → (∀ a b, (a ≠ p ∨ b ≠ n) → CA a b = CA0 a b) →
      wpX7_layCosts_L210 d Post K44 K190 (r + 1) ll lines CA W (nI (dH d)) (nI p) (nI n) (nI s)
  | 0, s, CA, hs, hA, hF => by
    unfold wpX7_layCosts_L210
    have a : (3 : Int32) ≤ nI s := by rw [li3, nI_leI (by omega) (by omega)]; omega
    refine ⟨fun _ => ?_, fun z => absurd a z⟩
    rw [nI_1]
    rw [show s = 3 by omega, accM_3 hO hp hnx] at hA
    exact hK CA hA hF
  | r + 1, s, CA, hs, hA, hF => by
    have h16 := hO.p16
    have h40 := hO.h40
    have hs3 : s < 3 := by omega
    have hcs := cS_le hO hp hs3 hnx n
    have hac := accM_le d p nx n s
    unfold wpX7_layCosts_L210 wpX7_layCosts_b269
    have a : ¬ (3 : Int32) ≤ nI s := by rw [li3, nI_leI (by omega) (by omega)]; omega
    refine ⟨fun z => absurd z a, fun _ => ?_⟩
    rw [allowed_m hO hp hs3]
    have ex : accM d p nx n (s + 1) = if alw d p s then min (accM d p nx n s) (cS d p nx s n) else accM d p nx n s := rfl
    cases hal : alw d p s
    · rw [hal] at ex
      refine ⟨fun _ => ?_, fun z => absurd rfl z⟩
      rw [nI_1]
      exact costs_s hO hM hp hn hnx hW hK r (s + 1) CA (by omega) (by rw [ex]; exact hA) hF
    · rw [hal] at ex
      refine ⟨fun z => absurd z (by decide), fun _ => ⟨vp_in_nI (by omega) (by decide), vp_in_nI (by omega) (by decide), vp_in_nI (by omega) (by decide), ?_⟩⟩
      rw [settingCost_m hO hM hp hs3]
      refine ⟨vp_in_nI (by omega) (by decide), vp_in_nI (by omega) (by decide), vp_in_nI (n := 0) (by decide) (by decide), vp_in_nI (by omega) (by decide), ?_⟩
      have hw := hW s hs3 (cnt d p s) (Nat.le_refl _) n hn
      rw [Nat.sub_self] at hw
      rw [nI_clamp (by omega), nI_clamp (by omega), nI_clamp (by omega), show (0 : Int32).toNatClampNeg = 0 from rfl, hw, nI_add, hA]
      have ec : sC d s (cnt d p s) + Wl d p (cnt d p s) nx (cnt d p s) n = cS d p nx s n := rfl
      rw [ec, min_e (by omega) (by omega), nI_1]
      refine ⟨vp_in_nI (by omega) (by decide), ?_⟩
      refine costs_s hO hM hp hn hnx hW hK r (s + 1) _ (by omega) ?_ (fun a b hab => ?_)
      · rw [ex]
        exact if_pos ⟨rfl, rfl⟩
      · unfold updR
        rw [if_neg (by omega)]
        exact hF a b hab
theorem costs_m {nx : Nat → Nat} {Post : (Nat → Int32) → (Nat → Nat → Int32) → (Nat → Nat → Int32) → (Nat → Nat → Nat → Nat → Int32) → Prop} {K44 : (Nat → Int32) → (Nat → Nat → Int32) → (Nat → Nat → Int32) → (Nat → Nat → Nat → Nat → Int32) → Int32 → Int32 → Prop} {ll : Nat → Int32} {CA0 : Nat → Nat → Int32} {W : (Nat → Nat → Nat → Nat → Int32)}
    (hO : OkB d) (hM : MLn d lines) (hp : p < dP d) (hnx : ∀ n, nx n ≤ 21098880) (hW : ∀ s, s < 3 → WI d p s nx (cnt d p s) W)
    (hK : ∀ CA, (∀ n, n ≤ dH d → CA p n = nI (cS d p nx (bS d p nx n) n)) → CFar p CA0 CA → K44 ll lines CA W (nI (dH d)) (nI p + (-1))) :
    ∀ (r n : Nat) (CA : Nat → Nat → Int32), n + r = dH d + 1 → (∀ m, m < n → CA p m = nI (cS d p nx (bS d p nx m) m)) → CFar p CA0 CA →
      wpX7_layCosts_L190 d Post K44 (r + 1) ll lines CA W (nI (dH d)) (nI p) (nI n)
  | 0, n, CA, hn, hA, hF => by
    have h40 := hO.h40
    unfold wpX7_layCosts_L190
    have a : nI (dH d) < nI n := by rw [nI_ltI (by omega) (by omega)]; omega
    exact ⟨fun _ => hK CA (fun m hm => hA m (by omega)) hF, fun z => absurd a z⟩
  | r + 1, n, CA, hn, hA, hF => by
    have h16 := hO.p16
    have h40 := hO.h40
    unfold wpX7_layCosts_L190
    have a : ¬ nI (dH d) < nI n := by rw [nI_ltI (by omega) (by omega)]; omega
    refine ⟨fun z => absurd z a, fun _ => ⟨vp_in_nI (by omega) (by decide), vp_in_nI (by omega) (by decide), 3 + 1, ?_⟩⟩
    rw [nI_clamp (by omega), nI_clamp (by omega)]
    refine costs_s (CA0 := CA) (nx := nx) hO hM hp (by omega) hnx hW (fun CA' h1 h2 => ?_) 3 0 _ rfl (if_pos ⟨rfl, rfl⟩) (fun a b hab => if_neg (by omega))
    refine costs_m hO hM hp hnx hW hK r (n + 1) CA' (by omega) (fun m hm => ?_) (fun a ha b => ?_)
    · by_cases g : m = n
      · rw [g]; exact h1
      · rw [h2 p m (Or.inr g)]; exact hA m (by omega)
    · rw [h2 a b (Or.inl ha)]; exact hF a ha b
theorem costs_p {nx : Nat → Nat} {Post : (Nat → Int32) → (Nat → Nat → Int32) → (Nat → Nat → Int32) → (Nat → Nat → Nat → Nat → Int32) → Prop} {K44 : (Nat → Int32) → (Nat → Nat → Int32) → (Nat → Nat → Int32) → (Nat → Nat → Nat → Nat → Int32) → Int32 → Int32 → Prop} {ll : Nat → Int32} {CA0 : Nat → Nat → Int32} {W0 : (Nat → Nat → Nat → Nat → Int32)}
    (hO : OkB d) (hM : MLn d lines) (hp : p < dP d) (hnx : ∀ n, nx n ≤ 21098880) (hCA : ∀ m, m ≤ dH d → CA0 (p + 1) m = nI (nx m))
    (hK : ∀ CA W, (∀ n, n ≤ dH d → CA p n = nI (cS d p nx (bS d p nx n) n)) → CFar p CA0 CA → (∀ s, s < 3 → WI d p s nx (cnt d p s) W) → WFarP p W0 W → K44 ll lines CA W (nI (dH d)) (nI p + (-1))) :
    ∀ (r s : Nat) (W : (Nat → Nat → Nat → Nat → Int32)), s + r = 3 → (∀ s', s' < s → WI d p s' nx (cnt d p s') W) → WFarP p W0 W →
      wpX7_layCosts_L51 d Post K44 (r + 1) ll lines CA0 W (nI (dH d)) (nI p) (nI s)
  | 0, s, W, hs, hA, hF => by
    unfold wpX7_layCosts_L51
    have a : (3 : Int32) ≤ nI s := by rw [li3, nI_leI (by omega) (by omega)]; omega
    refine ⟨fun _ => ⟨dH d + 1 + 1, ?_⟩, fun z => absurd a z⟩
    have hA' : ∀ s, s < 3 → WI d p s nx (cnt d p s) W := fun s' hs' => hA s' (by omega)
    exact costs_m hO hM hp hnx hA' (fun CA h1 h2 => hK CA W h1 h2 hA' hF) (dH d + 1) 0 CA0 (by omega) (fun m hm => absurd hm (Nat.not_lt_zero _)) (fun a ha b => rfl)
  | r + 1, s, W, hs, hA, hF => by
    have h16 := hO.p16
    have hs3 : s < 3 := by omega
    unfold wpX7_layCosts_L51
    have a : ¬ (3 : Int32) ≤ nI s := by rw [li3, nI_leI (by omega) (by omega)]; omega
    refine ⟨fun z => absurd z a, fun _ => ⟨vp_in_nI (by omega) (by decide), vp_in_nI (by omega) (by decide), dH d + 1 + 1, ?_⟩⟩
    rw [nI_clamp (by omega), nI_clamp (by omega), hM p hp s hs3]
    refine costs_c (W0 := W) (nx := nx) hO hM hp hs3 hnx hCA (fun W' h1 h2 => ?_) (dH d + 1) 0 W (by omega) (fun m hm => absurd hm (Nat.not_lt_zero _)) (fun a b _ c e => rfl)
    refine costs_p hO hM hp hnx hCA hK r (s + 1) W' (by omega) (fun s' hs' => ?_) (fun a ha b c e => (h2 a b (Or.inl ha) c e).trans (hF a ha b c e))
    by_cases g : s' = s
    · rw [g]; exact h1
    · intro i' hi' m hm
      rw [h2 p s' (Or.inr g)]
      exact hA s' (by omega) i' hi' m hm
/-- the reference's tables from paragraph p on -/
def CAW (d : Nat → Int32) (p : Nat) (CA : Nat → Nat → Int32) (W : (Nat → Nat → Nat → Nat → Int32)) : Prop := (∀ q, p ≤ q → q ≤ dP d → ∀ n, n ≤ dH d → CA q n = nI (VR d (dP d - q) n)) ∧ ∀ q, p ≤ q → q < dP d → ∀ s, s < 3 → WI d q s (VR d (dP d - (q + 1))) (cnt d q s) W
theorem costs_b {Post : (Nat → Int32) → (Nat → Nat → Int32) → (Nat → Nat → Int32) → (Nat → Nat → Nat → Nat → Int32) → Prop} {ll : Nat → Int32} (hO : OkB d) (hM : MLn d lines) (h : ∀ CA W, CAW d 0 CA W → Post ll lines CA W) :
    ∀ (p : Nat) (CA : Nat → Nat → Int32) (W : (Nat → Nat → Nat → Nat → Int32)), p ≤ dP d → CAW d p CA W → wpX7_layCosts_L44 d Post (p + 1) ll lines CA W (nI (dH d)) (if p = 0 then -1 else nI (p - 1))
  | 0, CA, W, hp, hA => by
    unfold wpX7_layCosts_L44
    exact ⟨fun _ => h CA W hA, fun z => absurd (by decide) z⟩
  | p + 1, CA, W, hp, hA => by
    have h16 := hO.p16
    rw [if_neg (Nat.succ_ne_zero p), Nat.add_sub_cancel]
    unfold wpX7_layCosts_L44
    refine ⟨fun z => absurd z (nI_pos (by omega)), fun _ => ⟨3 + 1, ?_⟩⟩
    refine costs_p (nx := VR d (dP d - (p + 1))) (W0 := W) hO hM (by omega) (fun n => VR_lt hO (by omega) n) (fun m hm => hA.1 (p + 1) (Nat.le_refl _) hp m hm) (fun CA' W' h1 h2 h3 h4 => ?_) 3 0 W rfl (fun s' hs' => absurd hs' (Nat.not_lt_zero _)) (fun a _ b c e => rfl)
    have ih := costs_b hO hM h p CA' W' (by omega) ⟨fun q g1 g2 n hn => by
      by_cases g : q = p
      · rw [g, VR_at (by omega)]; exact h1 n hn
      · rw [h2 q g]; exact hA.1 q (by omega) g2 n hn, fun q g1 g2 s hs => by
      by_cases g : q = p
      · rw [g]; exact h3 s hs
      · intro i' hi' m hm
        rw [h4 q g]
        exact hA.2 q (by omega) g2 s hs i' hi' m hm⟩
    by_cases g : p = 0
    · rw [if_pos g] at ih
      rw [show nI p + (-1) = (-1 : Int32) by rw [g]; decide]
      exact ih
    · rw [if_neg g] at ih
      rw [nI_m1 (by omega)]
      exact ih
theorem costs_z {Post : (Nat → Int32) → (Nat → Nat → Int32) → (Nat → Nat → Int32) → (Nat → Nat → Nat → Nat → Int32) → Prop} {ll : Nat → Int32} {W : (Nat → Nat → Nat → Nat → Int32)} (hO : OkB d) (hM : MLn d lines) (h : ∀ CA W, CAW d 0 CA W → Post ll lines CA W) :
    ∀ (r n : Nat) (CA : Nat → Nat → Int32), n + r = dH d + 1 → (∀ m, m < n → CA (dP d) m = nI 0) → wpX7_layCosts_L20 d Post (r + 1) ll lines CA W (nI (dP d)) (nI (dH d)) (nI n)
  | 0, n, CA, hn, hA => by
    have h16 := hO.p16
    have h40 := hO.h40
    unfold wpX7_layCosts_L20
    have a : nI (dH d) < nI n := by rw [nI_ltI (by omega) (by omega)]; omega
    refine ⟨fun _ => ⟨dP d + 1, ?_⟩, fun z => absurd a z⟩
    have := costs_b hO hM h (dP d) CA W (Nat.le_refl _) ⟨fun q g1 g2 n hn => by
      rw [show q = dP d by omega, Nat.sub_self]; exact hA n (by omega), fun q g1 g2 => by omega⟩
    by_cases g : dP d = 0
    · rw [if_pos g] at this
      rw [show nI (dP d) - 1 = (-1 : Int32) by rw [g]; decide]
      exact this
    · rw [if_neg g] at this
      rw [li1, sm_sub (by omega)]
      exact this
  | r + 1, n, CA, hn, hA => by
    have h16 := hO.p16
    have h40 := hO.h40
    unfold wpX7_layCosts_L20
    have a : ¬ nI (dH d) < nI n := by rw [nI_ltI (by omega) (by omega)]; omega
    refine ⟨fun z => absurd z a, fun _ => ⟨vp_in_nI (by omega) (by decide), vp_in_nI (by omega) (by decide), ?_⟩⟩
    rw [nI_clamp (by omega), nI_clamp (by omega), nI_1]
    refine costs_z hO hM h r (n + 1) _ (by omega) (fun m hm => ?_)
    unfold updR
    by_cases g : m = n
    · rw [if_pos ⟨rfl, g⟩]; rfl
    · rw [if_neg (by omega)]; exact hA m (by omega)
theorem layCosts_s {Post : (Nat → Int32) → (Nat → Nat → Int32) → (Nat → Nat → Int32) → (Nat → Nat → Nat → Nat → Int32) → Prop} {ll : Nat → Int32} {CA : Nat → Nat → Int32} {W : (Nat → Nat → Nat → Nat → Int32)} (hO : OkB d) (h : ∀ ll lines CA W, MLn d lines → CAW d 0 CA W → Post ll lines CA W) : wpX7_layCosts d ll lines CA W Post := by
  unfold wpX7_layCosts
  refine layAll_s hO (fun ll' lines' hM => ⟨vp_in_nI (n := 4) (by decide) (by decide), vp_in_nI (n := 1) (by decide) (by decide), dH d + 1 + 1, ?_⟩)
  rw [show d (4 : Int32).toNatClampNeg = nI (dP d) from hO.p, show d (1 : Int32).toNatClampNeg = nI (dH d) from hO.h]
  exact costs_z hO hM (fun CA W hA => h ll' lines' CA W hM hA) (dH d + 1) 0 CA (by omega) (fun m hm => absurd hm (Nat.not_lt_zero _))
end MCQ
