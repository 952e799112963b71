/-! THE LAW'S CHECKSUM is the book's -/
section CKS
variable {d : Nat → Int32} {b c ps st : Nat} {g wd : Nat → Nat} {bs : Option Nat × Option Nat × Int32} {m : Mu} {pl : Nat} {sg : Nat → Nat} {q : Pl} {sa ta : Nat}
theorem ck163 {cB u a0 k kk : Nat} {Post : Int64 → Mu → Prop} {K92 : Mu → Nat → Nat → Nat → Int64 → Int32 → Prop} {K149 : Mu → Nat → Nat → Nat → Int64 → Int32 → Nat → Int32 → Prop} {v : Int64} {co : Int32} (hO : OkB d) (hB : BK m b d c ps st g wd bs) (hL : LK m pl d sg q co sa ta) (h3 : ∀ p, p < dP d → sg p < 3) (hQ : PQ d sg q (lp d sg (dP d))) (hK : PlOk d q (dP d)) (hk : k < q.1) (hu : u ≤ cB) (hN : K149 m u b a0 (ckf (fun what => nI (pgN d q (fun p => cnt d p (sg p)) k what)) 5 v) (nI kk) pl (nI (k + 1))) : ∀ r w : Nat, w + r = 5 → wpX7_checksum_L163 cB Post K92 K149 (r + 1) m u b a0 (ckf (fun what => nI (pgN d q (fun p => cnt d p (sg p)) k what)) w v) (nI kk) pl (nI k) (nI w)
  | r, w, hw => by
    unfold wpX7_checksum_L163
    refine ⟨fun z => ?_, fun z => ?_⟩
    · have e : w = 5 := by
        have := (nI_leI (by decide) (by omega)).mp (show nI 5 ≤ nI w from z)
        omega
      subst e
      rw [li1, nI_add]
      exact hN
    · have hw5 : w < 5 := by
        rcases Nat.lt_or_ge w 5 with y | y
        · exact y
        · exact absurd (show nI 5 ≤ nI w from nI_le y (by omega)) z
      cases r with
      | zero => exact absurd hw (by omega)
      | succ r =>
        refine ⟨_, hB.1, hu, ofPage_s hO hB hL h3 hQ hK hk hw5 ?_⟩
        rw [li1, nI_add]
        exact ck163 hO hB hL h3 hQ hK hk hu hN r (w + 1) (by omega)
theorem ck149 {cB u a0 kk : Nat} {Post : Int64 → Mu → Prop} {K92 : Mu → Nat → Nat → Nat → Int64 → Int32 → Prop} {v : Int64} {co : Int32} (hO : OkB d) (hB : BK m b d c ps st g wd bs) (hL : LK m pl d sg q co sa ta) (h3 : ∀ p, p < dP d → sg p < 3) (hQ : PQ d sg q (lp d sg (dP d))) (hK : PlOk d q (dP d)) (hu : u ≤ cB) (hN : K92 m u b a0 (ckG d q sg q.1 v) (nI (kk + 1))) : ∀ r k : Nat, k + r = q.1 → wpX7_checksum_L149 cB Post K92 (r + 1) m u b a0 (ckG d q sg k v) (nI kk) pl (nI k)
  | r, k, hk => by
    have hq := hQ.len
    have hlp := lp_480 (sg := sg) hO (dP d) (Nat.le_refl _)
    have h16 := hO.p16
    have hL' := hL
    obtain ⟨l1, -, ft, l3, -⟩ := hL
    unfold wpX7_checksum_L149
    refine ⟨_, l1, _, rfl, _, _, l3, fun z => ?_, fun z => ?_⟩
    · have e : k = q.1 := by
        have := (nI_leI (by omega) (by omega)).mp z
        omega
      subst e
      rw [li1, nI_add]
      exact hN
    · have hkq : k < q.1 := by
        rcases Nat.lt_or_ge k q.1 with y | y
        · exact y
        · exact absurd (nI_le y (by omega)) z
      cases r with
      | zero => exact absurd hk (by omega)
      | succ r => exact ⟨6, ck163 (v := ckG d q sg k v) hO hB hL' h3 hQ hK hkq hu (ck149 hO hB hL' h3 hQ hK hu hN r (k + 1) (by omega)) 5 0 rfl⟩
theorem ck117 {cB u a0 kk : Nat} {Post : Int64 → Mu → Prop} {K92 : Mu → Nat → Nat → Nat → Int64 → Int32 → Prop} {v : Int64} (hO : OkB d) (hB : BK m b d c ps st g wd bs) (hL : LK m pl d sg q (nI (numP d q sg 0)) sa ta) (h3 : ∀ p, p < dP d → sg p < 3) (hQ : PQ d sg q (lp d sg (dP d))) (hK : PlOk d q (dP d)) (hu : u ≤ cB) (hN : K92 m u b a0 (ckW d q sg v) (nI (kk + 1))) : ∀ r w : Nat, w + r = 7 → wpX7_checksum_L117 cB Post K92 (r + 1) m u b a0 (ckf (fun what => nI (numP d q sg what)) w v) (nI kk) pl (nI w)
  | r, w, hw => by
    unfold wpX7_checksum_L117
    refine ⟨fun z => ?_, fun z => ?_⟩
    · have e : w = 7 := by
        have := (nI_leI (by decide) (by omega)).mp (show nI 7 ≤ nI w from z)
        omega
      subst e
      exact ⟨q.1 + 1, ck149 hO hB hL h3 hQ hK hu hN q.1 0 (Nat.zero_add _)⟩
    · have hw7 : w < 7 := by
        rcases Nat.lt_or_ge w 7 with y | y
        · exact y
        · exact absurd (show nI 7 ≤ nI w from nI_le y (by omega)) z
      cases r with
      | zero => exact absurd hw (by omega)
      | succ r =>
        refine ⟨_, hB.1, hu, ofPlan_s hO hB hL h3 hQ hK hw7 ?_⟩
        rw [li1, nI_add]
        exact ck117 hO hB hL h3 hQ hK hu hN r (w + 1) (by omega)
theorem ck53 {cB u p : Nat} {Post : Int64 → Mu → Prop} {K40 : Mu → Nat → Nat → Nat → Int64 → Int32 → Prop} {v : Int64} {co : Int32} (hO : OkB d) (hB : BK m b d c ps st g wd bs) (hL : LK m pl d (sgB d) q co sa ta) (hp : p < dP d) (hu : u ≤ cB) (hN : K40 m u b pl (ckf (paI d p) 8 v) (nI (p + 1))) : ∀ r w : Nat, w + r = 8 → wpX7_checksum_L53 cB Post K40 (r + 1) m u b pl (ckf (paI d p) w v) (nI p) (nI w)
  | r, w, hw => by
    unfold wpX7_checksum_L53
    refine ⟨fun z => ?_, fun z => ?_⟩
    · have e : w = 8 := by
        have := (nI_leI (by decide) (by omega)).mp (show nI 8 ≤ nI w from z)
        omega
      subst e
      rw [li1, nI_add]
      exact hN
    · have hw8 : w < 8 := by
        rcases Nat.lt_or_ge w 8 with y | y
        · exact y
        · exact absurd (show nI 8 ≤ nI w from nI_le y (by omega)) z
      cases r with
      | zero => exact absurd hw (by omega)
      | succ r =>
        refine ⟨_, hB.1, hu, of_s hO hB hL hp hw8 ?_⟩
        rw [li1, nI_add]
        exact ck53 hO hB hL hp hu hN r (w + 1) (by omega)
theorem ck40 {cB u : Nat} {Post : Int64 → Mu → Prop} {v : Int64} {co : Int32} (hO : OkB d) (hB : BK m b d c ps st g wd bs) (hL : LK m pl d (sgB d) q co sa ta) (hu : u ≤ cB) (hN : ∃ m_, wpX7_checksum_L92 cB Post m_ m u b pl (ckP d (dP d) v) 0) : ∀ r p : Nat, p + r = dP d → wpX7_checksum_L40 cB Post (r + 1) m u b pl (ckP d p v) (nI p)
  | r, p, hp => by
    have h16 := hO.p16
    have hB' := hB
    obtain ⟨k1, -, ⟨qq, k3, -⟩, -, -⟩ := hB
    unfold wpX7_checksum_L40
    refine ⟨_, k1, _, rfl, _, _, k3, fun z => ?_, fun z => ?_⟩
    · have e : p = dP d := by
        have := (nI_leI (by omega) (by omega)).mp z
        omega
      subst e
      exact hN
    · have hpd : p < dP d := by
        rcases Nat.lt_or_ge p (dP d) with y | y
        · exact y
        · exact absurd (nI_le y (by omega)) z
      cases r with
      | zero => exact absurd hp (by omega)
      | succ r => exact ⟨9, ck53 (v := ckP d p v) hO hB' hL hpd hu (ck40 hO hB' hL hu hN r (p + 1) (by omega)) 8 0 rfl⟩
theorem ck10 {cB u : Nat} {Post : Int64 → Mu → Prop} (hO : OkB d) (hB : BK m b d c ps st g wd bs) (hu : u ≤ cB) (hN : ∃ m_, wpX7_checksum_L40 cB Post m_ m u b pl (ckf (stI d) 13 0) 0) : ∀ r w : Nat, w + r = 13 → wpX7_checksum_L10 cB Post (r + 1) m u b pl (ckf (stI d) w 0) (nI w)
  | r, w, hw => by
    unfold wpX7_checksum_L10
    refine ⟨fun z => ?_, fun z => ?_⟩
    · have e : w = 13 := by
        have := (nI_leI (by decide) (by omega)).mp (show nI 13 ≤ nI w from z)
        omega
      subst e
      exact hN
    · have hw8 : w < 13 := by
        rcases Nat.lt_or_ge w 13 with y | y
        · exact y
        · exact absurd (show nI 13 ≤ nI w from nI_le y (by omega)) z
      cases r with
      | zero => exact absurd hw (by omega)
      | succ r =>
        refine ⟨_, hB.1, hu, told_s hO hB hw8 ?_⟩
        rw [li1, nI_add]
        exact ck10 hO hB hu hN r (w + 1) (by omega)
theorem sgB_3 (hO : OkB d) {p : Nat} (hp : p < dP d) : sgB d p < 3 := bS_lt hO hp _ _
def exB (b st : Nat) : Nat → Nat → Prop := fun k a => (k = 2 ∧ a = b) ∨ (k = 0 ∧ a = st)
theorem checkL_s {cB : Nat} {Post : Int64 → Mu → Prop} (hO : OkB d) (hS : SmB d) (hB : BK m b d c ps st g wd bs) (hc : c ≠ st) (hw : ∀ p, p < dP d → wd p ≠ st) (hcB : 17575 ≤ cB) (hP : ∀ m' bs', Fx (exB b st) m m' → BK m' b d c ps st g wd bs' → Post (ckA d) m') : wpX7_checksum cB m b Post := by
  unfold wpX7_checksum
  refine ⟨_, hB.1, 17556, by omega, best_s hO hS hB hc hw (by decide) (fun m1 pl sa s t bs' f1 B1 L1 ns nt _ => ⟨14, ck10 hO B1 (by omega) ⟨dP d + 1, ck40 hO B1 L1 (by omega) ⟨3, ?_⟩ (dP d) 0 (Nat.zero_add _)⟩ 13 0 rfl⟩)⟩
  unfold wpX7_checksum_L92
  refine ⟨fun z => absurd z (by decide), fun _ => ⟨fun z => absurd rfl z, fun _ => ⟨_, B1.1, 19, by omega, planF_s hO hS B1 (Nat.le_refl _) (fun m2 a ch t2 f2 L2 => ⟨8, ?_⟩)⟩⟩⟩
  have B2 : BK m2 b d c ps st g wd bs' := B1.fx f2 (fun w => w) (fun w => w) (fun w => w) (fun w => w) (fun p hp => ⟨fun w => w, fun w => w⟩)
  have L1' : LK m2 pl d (sgB d) (lyB d (dP d)) (nI (numP d (lyB d (dP d)) (sgB d) 0)) s t := by
    rw [best_numP hO]
    exact L1.fx f2 (fun w => w) (fun w => w) (fun w => w)
  refine ck117 (kk := 0) hO B2 L2 (fun p _ => (by decide : 0 < 3)) (PQ_lyP (dP d) (Nat.le_refl _)) (lyP_ok hO sg0 (Nat.le_refl _)) (by omega) ?_ 7 0 rfl
  unfold wpX7_checksum_L92
  refine ⟨fun z => absurd z (by decide), fun _ => ⟨fun _ => ⟨8, ?_⟩, fun z => absurd z (by decide)⟩⟩
  refine ck117 (kk := 1) hO B2 L1' (fun p hp => sgB_3 hO hp) (PQ_lyB (dP d) (Nat.le_refl _)) (lyB_ok hO (Nat.le_refl _)) (by omega) ?_ 7 0 rfl
  unfold wpX7_checksum_L92
  refine ⟨fun _ => ⟨by omega, hP m2 bs' (f1.trans (f2.mono (fun k a w => w.elim))) B2⟩, fun z => absurd (by decide) z⟩
end CKS
