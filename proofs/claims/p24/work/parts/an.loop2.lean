/-! THE LOOP AND WHAT IS BEHIND IT -/
theorem loop_s {S : ivS} {m : Mu} {b v5 v7 cB u : Nat} {Post : Prop} (h : INV S m b v5 v7 0) (hu : u + 400000 ≤ cB) : ∃ m_, wpL_law_L228 cB Post m_ S m u 1 v5 b v7 (nI 0) (nI 0) :=
  ⟨15, l228_L (A := 17800) (E := 150000) rfl rfl (fun u' done' S' m' hu' hd hI => l1242_s hI (by omega) hu') 14 0 u 0 S m rfl (by omega) (Nat.le_refl _) h⟩
