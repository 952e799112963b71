/-! FULLNESS -/
/-- how full the best plan's pages are -/
def fuV (d : Nat → Int32) : UInt32 := if (lyB d (dP d)).1 = 0 then FP.fconst0 else FP.fdiv (FP.i2f (nI (numP d (lyB d (dP d)) (sgB d) 6))) (FP.i2f (nI ((lyB d (dP d)).1 * dH d)))
theorem sumN_le {f : Nat → Nat} {M : Nat} : ∀ n, (∀ k, k < n → f k ≤ M) → sumN f n ≤ n * M
  | 0, _ => Nat.zero_le _
  | n + 1, h => by
    have h1 := sumN_le n (fun k hk => h k (by omega))
    have h2 := h n (Nat.lt_succ_self n)
    rw [Nat.succ_mul]
    show sumN f n + f n ≤ _
    exact Nat.add_le_add h1 h2
theorem full_b {d : Nat → Int32} {q : Pl} {sg : Nat → Nat} (hO : OkB d) (h : PlOk d q (dP d)) : q.1 * dH d < 19201 ∧ numP d q sg 6 < 19201 := by
  have h16 := hO.p16
  have h40 := hO.h40
  have hq : q.1 ≤ 480 := by have := h.1; omega
  have h1 : q.1 * dH d ≤ 480 * 40 := Nat.mul_le_mul hq h40
  have h2 : sumN (termP d q (fun p => cnt d p (sg p)) 6) q.1 ≤ q.1 * dH d := sumN_le q.1 (fun k hk => (h.2 k hk).2.2.2)
  have h3 : numP d q sg 6 = 0 + sumN (termP d q (fun p => cnt d p (sg p)) 6) q.1 := by unfold numP; rw [if_neg (by decide)]
  rw [h3]
  generalize q.1 * dH d = X at *
  omega
theorem fuV_n {d : Nat → Int32} (hO : OkB d) (h : PlOk d (lyB d (dP d)) (dP d)) : vf_n32 (fuV d) := by
  have hb := full_b (sg := sgB d) hO h
  have h2 := hO.h2
  unfold fuV
  split
  · exact fc0_n
  · next h0 =>
    exact fdiv_n hb.2 hb.1 (Nat.ne_of_gt (Nat.mul_pos (by omega) (by omega)))
section FUL
variable {d : Nat → Int32} {iBF b1 b2 : Int32} {b3 b4 b5 b6 b7 : Nat → Int32} {k1 k2 k3 k4 : Nat → Int32} {costs rows counts taken : Nat → Int32}
theorem fullness_s {Post : UInt32 → Int32 → Int32 → Int32 → (Nat → Int32) → (Nat → Int32) → (Nat → Int32) → (Nat → Int32) → (Nat → Int32) → (Nat → Int32) → (Nat → Int32) → (Nat → Int32) → (Nat → Int32) → Prop} (hO : OkB d) (hC : CCosts d costs) (hR : CRows d rows) (hL : CL d counts taken) (hB : KB d iBF b1 b2 b3 b4 b5 b6 b7)
    (h : ∀ iBF b1 b2 b3 b4 b5 b6 b7 k1 k2 k3 k4, KB d iBF b1 b2 b3 b4 b5 b6 b7 → Post (fuV d) iBF b1 b2 b3 b4 b5 b6 b7 k1 k2 k3 k4) :
    wpX6_fullness iBF b1 b2 b3 b4 b5 b6 b7 (nI (dH d)) (nI (dL d)) (nI (dP d)) costs rows counts k1 k2 k3 k4 Post := by
  unfold wpX6_fullness
  refine upT_s hO hC hR hL hB (fun pages P qc fl fp qs sz chosen ends rest rob hh => ?_)
  have hb := full_b (sg := sgB d) hO hh.2.2.2.1
  have hp := hh.1.1
  subst hp
  have h2 := hO.h2
  have x := h (nI 1) (nI (lyB d (dP d)).1) P qc fl fp qs sz chosen ends rest rob (Or.inr ⟨rfl, hh⟩)
  rw [pk_mul]
  by_cases g : (lyB d (dP d)).1 = 0
  · have e : (lyB d (dP d)).1 * dH d = 0 := by rw [g, Nat.zero_mul]
    rw [show fuV d = FP.fconst0 from if_pos g] at x
    rw [e, fcmp_0]
    exact ⟨fun z => absurd z (by decide), fun _ => x⟩
  · have hn : (lyB d (dP d)).1 * dH d ≠ 0 := Nat.ne_of_gt (Nat.mul_pos (by omega) (by omega))
    rw [show fuV d = FP.fdiv (FP.i2f (nI (numP d (lyB d (dP d)) (sgB d) 6))) (FP.i2f (nI ((lyB d (dP d)).1 * dH d))) from if_neg g] at x
    rw [fcmp_p hb.1 hn]
    refine ⟨fun _ => ?_, fun z => absurd (by decide) z⟩
    exact numberOf_s (what := 6) hO hC hR hh (by decide) ⟨fdiv_n hb.2 hb.1 hn, x⟩
theorem fullnessM_s {th : Int32} {pages : Int32} {ll : Nat → Int32} {lines CA : Nat → Nat → Int32} {W : (Nat → Nat → Nat → Nat → Int32)} {st fp fl sz bc ec : Nat → Int32} {po : Nat → Nat → Int32} {Post : UInt32 → Int32 → Int32 → (Nat → Int32) → (Nat → Nat → Int32) → (Nat → Nat → Int32) → (Nat → Nat → Nat → Nat → Int32) → (Nat → Int32) → (Nat → Int32) → (Nat → Int32) → (Nat → Int32) → (Nat → Int32) → (Nat → Int32) → (Nat → Nat → Int32) → Prop} (hO : OkB d) (h : ∀ pages ll lines CA W st fp fl sz bc ec po, Post (fuV d) 0 pages ll lines CA W st fp fl sz bc ec po) : wpX7_fullness th pages d ll lines CA W st fp fl sz bc ec po Post := by
  unfold wpX7_fullness
  refine layBestM_s hO (fun pages ll lines CA W st fp fl sz bc ec po hCW hA => ?_)
  have hb := full_b (sg := sgB d) hO hA.2.2.2.1
  have hp := hA.pg
  subst hp
  have h2 := hO.h2
  have h480 := hA.b480 hO
  have x := h (nI (lyB d (dP d)).1) ll lines CA W st fp fl sz bc ec po
  have e1 : d (1 : Int32).toNatClampNeg = nI (dH d) := hO.h
  rw [e1, pk_mul]
  by_cases g : (lyB d (dP d)).1 = 0
  · rw [show fuV d = FP.fconst0 from if_pos g] at x
    exact ⟨fun z => absurd ((nI_eq (b := 0) (by omega) (by decide)).mpr g) z, fun _ => x⟩
  · have hn : (lyB d (dP d)).1 * dH d ≠ 0 := Nat.ne_of_gt (Nat.mul_pos (by omega) (by omega))
    rw [show fuV d = FP.fdiv (FP.i2f (nI (numP d (lyB d (dP d)) (sgB d) 6))) (FP.i2f (nI ((lyB d (dP d)).1 * dH d))) from if_neg g] at x
    refine ⟨fun _ => ?_, fun z => absurd ((nI_eq (b := 0) (by omega) (by decide)).mp z) g⟩
    exact toldPlan_s (what := 6) hO hA (LtC_pl true) (by decide) ⟨vp_in_nI (n := 1) (by decide) (by decide), fdiv_n hb.2 hb.1 hn, x⟩
end FUL
