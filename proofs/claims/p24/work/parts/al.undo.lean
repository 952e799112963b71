/-! THE LAW'S END: all is undone, last looks -/
section UND
variable {S : ivS} {m : Mu} {b v5 v7 done cB u : Nat} {Post : Prop}
theorem last_s {e : Int32} (hO : OkB S.1) (hS : Sm S.1) (h0 : S.2.2.2.2.1 = 0) (he : e = 1) (hu : u + 20 ≤ cB) : wpL_law_b1294 cB Post S m u e := by
  subst he
  have h16 := hO.p16
  have hP3 := hS.1
  have m1 : ∀ n, ¬ inR (-1 : Int32) n ∨ 2 ^ 31 ≤ n := fun n => by
    rcases Nat.lt_or_ge n (2 ^ 31) with y | y
    · refine Or.inl (fun ⟨p, h1, h2⟩ => ?_)
      have := nI_ne_m1 (a := p) (by omega)
      rw [← h2] at this
      exact this.mp rfl
    · exact Or.inr y
  unfold wpL_law_b1294
  refine ⟨fun z => absurd z (by decide), fun _ => ?_⟩
  have e1 : s_load S 1 = rNo S 1 := by
    unfold s_load
    rw [cif_n (by rw [h0]; exact in_no (n := 1) (by decide) (by decide) (Nat.le_refl _))]
  have e2 : s_word S (-1) 0 = rNo S 1 := by
    unfold s_word
    rw [cif_n ((m1 _).elim id (fun y => by omega))]
  have e3 : s_lineLength S 16 0 0 = rNo S 1 := by
    unfold s_lineLength
    rw [cif_n (show ¬ inR (16 : Int32) (dP S.1) from in_no (n := 16) (by decide) (by omega) (by omega))]
  have e7 : s_begin S (-1) true = rNo S 1 := by
    unfold s_begin
    rw [cif_n ((m1 _).elim id (fun y => by omega))]
  have e6 : s_setCost S 0 1000 = rNo S 1 := by
    unfold s_setCost
    rw [cif_n (fun y => in_no (n := 1000) (by decide) (by decide) (Nat.le_refl _) y.2)]
  have e5 : s_pageOf S true (-1) 0 = rNo S 1 := by
    unfold s_pageOf
    rw [cif_n ((m1 _).elim id (fun y => by omega))]
  have e4 : s_page S true (-1) 0 = rNo S 1 := by
    unfold s_page
    rw [cif_n ((m1 _).elim id (fun y => by
      have := lyB_pages hO (dP S.1) (Nat.le_refl _)
      have y : 2 ^ 31 ≤ (lyB S.1 (dP S.1)).1 := y
      omega))]
  refine ⟨by omega, fun T0 h0 r0 q0 => ⟨fun z => absurd (by rw [q0, e1]; exact an1_1 rfl) z, fun _ => ?_⟩⟩
  have g0 : T0 = S := by rw [h0, e1]; rfl
  rw [g0]
  refine ⟨by omega, fun T1 h1 r1 q1 => ⟨fun z => absurd (by rw [q1, e2]; exact an2_1 rfl) z, fun _ => ?_⟩⟩
  have g1 : T1 = S := by rw [h1, e2]; rfl
  rw [g1]
  refine ⟨by omega, fun T2 h2 r2 q2 => ⟨fun z => absurd (by rw [q2, e3]; exact an3_1 rfl) z, fun _ => ?_⟩⟩
  have g2 : T2 = S := by rw [h2, e3]; rfl
  rw [g2]
  refine ⟨by omega, fun T3 h3 r3 q3 => ⟨fun z => absurd (by rw [q3, e4]; exact an2_1 rfl) z, fun _ => ?_⟩⟩
  have g3 : T3 = S := by rw [h3, e4]; rfl
  rw [g3]
  refine ⟨by omega, fun T4 h4 r4 q4 => ⟨fun z => absurd (by rw [q4, e5]; exact an2_1 rfl) z, fun _ => ?_⟩⟩
  have g4 : T4 = S := by rw [h4, e5]; rfl
  rw [g4]
  refine ⟨by omega, fun T5 h5 r5 q5 => ⟨fun z => absurd (by rw [q5, e6]; exact an1_1 rfl) z, fun _ => ?_⟩⟩
  have g5 : T5 = S := by rw [h5, e6]; rfl
  rw [g5]
  refine ⟨by omega, fun T6 h6 r6 q6 => ⟨fun z => absurd (by rw [q6, e7]; exact an1_1 rfl) z, fun _ => ?_⟩⟩
  unfold wpL_law_b1385
  exact ⟨rfl, by omega⟩
end UND
