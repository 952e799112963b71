/-! THE CLASS: numbers of the book, checksum, saved -/
def stI (d : Nat → Int32) (what : Nat) : Int32 := if what = 5 then nI (sumN (dN d) (dP d)) else if what = 6 then nI (sumN (fun p => if dF d p = -1 then 0 else 1) (dP d)) else if what < 5 then d what else d (5 + (what - 7))
def paI (d : Nat → Int32) (p what : Nat) : Int32 :=
  match what with
  | 0 => nI (dN d p)
  | 4 => bI (dHd d p)
  | 5 => bI (dB d p)
  | 6 => dF d p
  | 7 => nI (sgB d p)
  | w => nI (cnt d p (w - 1))
def ckf (f : Nat → Int32) : Nat → Int64 → Int64
  | 0, v => v
  | n + 1, v => 31 * ckf f n v + (f n).toInt64
def ckP (d : Nat → Int32) : Nat → Int64 → Int64
  | 0, v => v
  | p + 1, v => ckf (paI d p) 8 (ckP d p v)
def ckG (d : Nat → Int32) (q : Pl) (sg : Nat → Nat) : Nat → Int64 → Int64
  | 0, v => v
  | k + 1, v => ckf (fun what => nI (pgN d q (fun p => cnt d p (sg p)) k what)) 5 (ckG d q sg k v)
def ckW (d : Nat → Int32) (q : Pl) (sg : Nat → Nat) (v : Int64) : Int64 := ckG d q sg q.1 (ckf (fun what => nI (numP d q sg what)) 7 v)
def ckA (d : Nat → Int32) : Int64 := ckW d (lyB d (dP d)) (sgB d) (ckW d (lyP d sg0 (dP d)) sg0 (ckP d (dP d) (ckf (stI d) 13 0)))
theorem ckf_shift (f : Nat → Int32) (n : Nat) (v : Int64) : ckf f (n + 1) v = 31 * ckf f n v + (f n).toInt64 := rfl
section CSM
variable {d : Nat → Int32} {rows costs counts taken : Nat → Int32} {p : Nat} {Post : Int32 → Prop}
theorem allWords_L (hO : OkB d) (hR : CRows d rows) : ∀ (r p : Nat), p + r = dP d → Post (nI (sumN (dN d) (dP d))) → wpX0_allWords_L4 (nI (dP d)) rows Post (r + 1) (nI (sumN (dN d) p)) (nI p)
  | 0, p, hp, hP => by
    have h16 := hO.p16
    unfold wpX0_allWords_L4
    have a : nI (dP d) ≤ nI p := by rw [nI_leI (by omega) (by omega)]; omega
    refine ⟨fun _ => ?_, fun z => absurd a z⟩
    rw [show p = dP d by omega]
    exact hP
  | r + 1, p, hp, hP => by
    have h16 := hO.p16
    unfold wpX0_allWords_L4
    have a : ¬ nI (dP d) ≤ nI p := by rw [nI_leI (by omega) (by omega)]; omega
    refine ⟨fun z => absurd z a, fun _ => ?_⟩
    rw [wordsOf_e hO hR (by omega), nI_add, nI_1]
    exact allWords_L hO hR r (p + 1) (by omega) hP
theorem allFixed_L (hO : OkB d) (hR : CRows d rows) : ∀ (r p : Nat), p + r = dP d → Post (nI (sumN (fun p => if dF d p = -1 then 0 else 1) (dP d))) → wpX0_allFixed_L4 (nI (dP d)) rows Post (r + 1) (nI (sumN (fun p => if dF d p = -1 then 0 else 1) p)) (nI p)
  | 0, p, hp, hP => by
    have h16 := hO.p16
    unfold wpX0_allFixed_L4
    have a : nI (dP d) ≤ nI p := by rw [nI_leI (by omega) (by omega)]; omega
    refine ⟨fun _ => ?_, fun z => absurd a z⟩
    rw [show p = dP d by omega]
    exact hP
  | r + 1, p, hp, hP => by
    have h16 := hO.p16
    have ih := allFixed_L hO hR r (p + 1) (by omega) hP
    have e : sumN (fun p => if dF d p = -1 then 0 else 1) (p + 1) = sumN (fun p => if dF d p = -1 then 0 else 1) p + (if dF d p = -1 then 0 else 1) := rfl
    rw [e] at ih
    unfold wpX0_allFixed_L4 wpX0_allFixed_b27
    have a : ¬ nI (dP d) ≤ nI p := by rw [nI_leI (by omega) (by omega)]; omega
    refine ⟨fun z => absurd z a, fun _ => ?_⟩
    rw [fixedTo_e hO hR (by omega)]
    refine ⟨fun z => ?_, fun z => ?_⟩
    · rw [if_neg z] at ih
      rw [li1, nI_add, nI_add]
      exact ih
    · rw [if_pos z] at ih
      rw [li0, li1, nI_add, nI_add]
      exact ih
theorem numberOf_b (hO : OkB d) (hC : CCosts d costs) (hR : CRows d rows) {what : Nat} (hw : what < 13) (hP : Post (stI d what)) : wpX0_numberOf (nI (dW d)) (nI (dH d)) (nI (dS d)) (nI (dL d)) (nI (dP d)) costs rows (nI what) Post := by
  unfold wpX0_numberOf
  have h16 := hO.p16
  have eq : ∀ k, k < 13 → (nI what = nI k ↔ what = k) := fun k hk => nI_eq (by omega) (by omega)
  refine ⟨fun z => ?_, fun z => ?_, fun z => ?_, fun z => ?_, fun z => ?_, fun z => ?_, fun z => ?_, fun z => ?_⟩
  · have e := (eq 0 (by decide)).mp z; subst e; rw [← hO.w]; exact hP
  · have e := (eq 1 (by decide)).mp z; subst e; rw [← hO.h]; exact hP
  · have e := (eq 2 (by decide)).mp z; subst e; rw [← hO.s]; exact hP
  · have e := (eq 3 (by decide)).mp z; subst e; rw [← hO.l]; exact hP
  · have e := (eq 4 (by decide)).mp z; subst e; rw [← hO.p]; exact hP
  · have e := (eq 5 (by decide)).mp z; subst e
    exact ⟨dP d + 1, allWords_L hO hR (dP d) 0 (by omega) hP⟩
  · have e := (eq 6 (by decide)).mp z; subst e
    exact ⟨dP d + 1, allFixed_L hO hR (dP d) 0 (by omega) hP⟩
  · obtain ⟨z0, z1, z2, z3, z4, z5, z6⟩ := z
    have n0 : what ≠ 0 := fun e => z0 ((eq 0 (by decide)).mpr e)
    have n1 : what ≠ 1 := fun e => z1 ((eq 1 (by decide)).mpr e)
    have n2 : what ≠ 2 := fun e => z2 ((eq 2 (by decide)).mpr e)
    have n3 : what ≠ 3 := fun e => z3 ((eq 3 (by decide)).mpr e)
    have n4 : what ≠ 4 := fun e => z4 ((eq 4 (by decide)).mpr e)
    have n5 : what ≠ 5 := fun e => z5 ((eq 5 (by decide)).mpr e)
    have n6 : what ≠ 6 := fun e => z6 ((eq 6 (by decide)).mpr e)
    unfold stI at hP
    rw [if_neg n5, if_neg n6, if_neg (by omega), hO.c (by omega)] at hP
    rw [li7, sm_sub (by omega), costOf_e hC (by omega)]
    exact hP
theorem parNumber_s (hO : OkB d) (hR : CRows d rows) (hL : CL d counts taken) (hp : p < dP d) {what : Nat} (hw : what < 7) (hP : Post (paI d p what)) : wpX6_paragraphNumber rows counts (nI p) (nI what) Post := by
  unfold wpX6_paragraphNumber
  have eq : ∀ k, k < 8 → (nI what = nI k ↔ what = k) := fun k hk => nI_eq (by omega) (by omega)
  refine ⟨fun z => ?_, fun z => ?_, fun z => ?_, fun z => ?_, fun z => ?_⟩
  · have e := (eq 0 (by decide)).mp z; subst e; rw [wordsOf_e hO hR hp]; exact hP
  · have e := (eq 4 (by decide)).mp z; subst e; rw [isHeading_e hO hR hp]
    have hP : Post (bI (dHd d p)) := hP
    cases hh : dHd d p <;> rw [hh] at hP
    · exact ⟨fun _ => hP, fun z => absurd rfl z⟩
    · exact ⟨fun z => absurd z (by decide), fun _ => hP⟩
  · have e := (eq 5 (by decide)).mp z; subst e; rw [beginsPage_e hO hR hp]
    have hP : Post (bI (dB d p)) := hP
    cases hh : dB d p <;> rw [hh] at hP
    · exact ⟨fun _ => hP, fun z => absurd rfl z⟩
    · exact ⟨fun z => absurd z (by decide), fun _ => hP⟩
  · have e := (eq 6 (by decide)).mp z; subst e; rw [fixedTo_e hO hR hp]; exact hP
  · obtain ⟨z0, z4, z5, z6⟩ := z
    have n0 : what ≠ 0 := fun e => z0 ((eq 0 (by decide)).mpr e)
    have n4 : what ≠ 4 := fun e => z4 ((eq 4 (by decide)).mpr e)
    have n5 : what ≠ 5 := fun e => z5 ((eq 5 (by decide)).mpr e)
    have n6 : what ≠ 6 := fun e => z6 ((eq 6 (by decide)).mpr e)
    rw [li1, sm_sub (by omega), countOf_e hO hL hp (by omega)]
    have : what = 1 ∨ what = 2 ∨ what = 3 := by omega
    rcases this with e | e | e <;> subst e <;> exact hP
end CSM
section CSW
variable {d : Nat → Int32} {rows costs counts taken : Nat → Int32} {p : Nat} {q : Pl} {sg : Nat → Nat} {pages P : Int32} {qc fl fp qs sz : Nat → Int32} {Post : Int64 → Prop} {a1 : Int64}
theorem withPlan_in {K : Int64 → Int32 → Prop} (hO : OkB d) (hC : CCosts d costs) (hR : CRows d rows) (h : CPlan d q sg pages P qc fl fp qs sz) {k : Nat} (hk : k < q.1) (v : Int64)
    (hK : K (ckf (fun what => nI (pgN d q (fun p => cnt d p (sg p)) k what)) 5 v) (nI (k + 1))) :
    ∀ (r w : Nat), w + r = 5 → wpX6_withPlan_L54 (nI (dH d)) costs rows pages P qc fl fp qs sz a1 Post K (r + 1) (ckf (fun what => nI (pgN d q (fun p => cnt d p (sg p)) k what)) w v) (nI k) (nI w)
  | 0, w, hw => by
    unfold wpX6_withPlan_L54
    have e : w = 5 := by omega
    subst e
    refine ⟨fun _ => ?_, fun z => absurd (by decide) z⟩
    rw [nI_1]
    exact hK
  | r + 1, w, hw => by
    unfold wpX6_withPlan_L54
    have a : ¬ (5 : Int32) ≤ nI w := by rw [li5, nI_leI (by omega) (by omega)]; omega
    refine ⟨fun z => absurd z a, fun _ => ?_⟩
    rw [pageNumber_e hO hC hR h hk (by omega), nI_1]
    exact withPlan_in hO hC hR h hk v hK r (w + 1) (by omega)
theorem withPlan_pg (hO : OkB d) (hC : CCosts d costs) (hR : CRows d rows) (h : CPlan d q sg pages P qc fl fp qs sz) (v : Int64) (hP : Post (ckG d q sg q.1 v)) :
    ∀ (r k : Nat), k + r = q.1 → wpX6_withPlan_L42 (nI (dH d)) costs rows pages P qc fl fp qs sz a1 Post (r + 1) (ckG d q sg k v) (nI k)
  | 0, k, hk => by
    have hb := h.b480 hO
    have hpg := h.1.1
    unfold wpX6_withPlan_L42
    have a : pages ≤ nI k := by rw [hpg, nI_leI (by omega) (by omega)]; omega
    refine ⟨fun _ => ?_, fun z => absurd a z⟩
    rw [show k = q.1 by omega]
    exact hP
  | r + 1, k, hk => by
    have hb := h.b480 hO
    have hpg := h.1.1
    unfold wpX6_withPlan_L42
    have a : ¬ pages ≤ nI k := by rw [hpg, nI_leI (by omega) (by omega)]; omega
    refine ⟨fun z => absurd z a, fun _ => ⟨5 + 1, ?_⟩⟩
    exact withPlan_in hO hC hR h (by omega) (ckG d q sg k v) (withPlan_pg hO hC hR h v hP r (k + 1) (by omega)) 5 0 rfl
theorem withPlan_n (hO : OkB d) (hC : CCosts d costs) (hR : CRows d rows) (h : CPlan d q sg pages P qc fl fp qs sz) (v : Int64) (hP : Post (ckW d q sg v)) :
    ∀ (r w : Nat), w + r = 7 → wpX6_withPlan_L6 (nI (dH d)) costs rows pages P qc fl fp qs sz a1 Post (r + 1) (ckf (fun what => nI (numP d q sg what)) w v) (nI w)
  | 0, w, hw => by
    unfold wpX6_withPlan_L6
    have e : w = 7 := by omega
    subst e
    refine ⟨fun _ => ⟨q.1 + 1, ?_⟩, fun z => absurd (by decide) z⟩
    exact withPlan_pg hO hC hR h _ hP q.1 0 (by omega)
  | r + 1, w, hw => by
    unfold wpX6_withPlan_L6
    have a : ¬ (7 : Int32) ≤ nI w := by rw [li7, nI_leI (by omega) (by omega)]; omega
    refine ⟨fun z => absurd z a, fun _ => ?_⟩
    refine numberOf_s hO hC hR h (by omega) ?_
    rw [nI_1]
    exact withPlan_n hO hC hR h v hP r (w + 1) (by omega)
theorem withPlan_s (hO : OkB d) (hC : CCosts d costs) (hR : CRows d rows) (h : CPlan d q sg pages P qc fl fp qs sz) (hP : Post (ckW d q sg a1)) : wpX6_withPlan (nI (dH d)) costs rows pages P qc fl fp qs sz a1 Post :=
  ⟨7 + 1, withPlan_n hO hC hR h a1 hP 7 0 rfl⟩
end CSW
