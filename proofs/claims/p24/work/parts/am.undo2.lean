/-! THE LAW'S END: the undoing -/
section UN2
variable {b v5 v7 cB : Nat} {Post : Prop}
/-- j of them are undone -/
def UNV (S0 S : ivS) (k0 k1 : Nat → Nat) (m : Mu) (v7 done j : Nat) (f : Nat → Option Nat) : Prop := OkB S.1 ∧ Sm S.1 ∧ S.2.1 = S0.2.1 ∧ S.2.2.1 = S0.2.2.1 - j ∧ S.2.2.2.2.1 = 0 ∧ mQ m v7 = some (3, 9, f) ∧ ∀ i, j ≤ i → i < done → i < 8 → ∃ a, f i = some a ∧ LB k0 k1 m a (S0.2.1 (S0.2.2.1 - 1 - i))
theorem undo_L {A : Nat} {S0 : ivS} {k0 k1 : Nat → Nat} {done : Nat} {f : Nat → Option Nat} (hA : A = 17600) (hn8 : S0.2.2.1 ≤ 8) (hd2 : done < 100) (hok : ∀ i, i < done → i < 8 → i < S0.2.2.1 ∧ OkB (S0.2.1 (S0.2.2.1 - 1 - i)) ∧ Sm (S0.2.1 (S0.2.2.1 - 1 - i))) (hinj : ∀ i j a, i < done → j < done → i < 8 → j < 8 → f i = some a → f j = some a → i = j) : ∀ (r j u : Nat) (S : ivS) (m : Mu), j + r = 8 → u + A * r + 20 ≤ cB → UNV S0 S k0 k1 m v7 done j f → wpL_law_L1245 cB Post (r + 1) S m u 1 v7 (nI done) (nI j)
  | r, j, u, S, m, hj, hu, h => by
    have hA2 : A * r = 17600 * r := by rw [hA]
    obtain ⟨hO, hS, h1, h2, h3, h4, h5⟩ := h
    unfold wpL_law_L1245
    refine ⟨fun _ => last_s hO hS h3 rfl (by omega), fun z => ⟨fun _ => last_s hO hS h3 rfl (by omega), fun w => ⟨fun y => absurd y (by decide), fun _ => ?_⟩⟩⟩
    have hj8 : j < 8 := by
      rcases Nat.lt_or_ge j 8 with y | y
      · exact y
      · exact absurd (show nI 8 ≤ nI j from nI_le y (by omega)) z
    have hjd : j < done := by
      rcases Nat.lt_or_ge j done with y | y
      · exact y
      · exact absurd (nI_le y (by omega)) w
    cases r with
    | zero => exact absurd hj (by omega)
    | succ r =>
      have hA3 : A * (r + 1) = A * r + 17600 := by rw [hA, Nat.mul_add]
      have hA4 : A * r = 17600 * r := by rw [hA]
      obtain ⟨o1, o2, o3⟩ := hok j hjd hj8
      have hn : S.2.2.1 ≠ 0 := by rw [h2]; omega
      have es : s_undo S = (0, nI (S.2.2.1 - 1), true, (S.2.1 (S.2.2.1 - 1), S.2.1, S.2.2.1 - 1, S.2.2.2)) := if_neg hn
      refine ⟨by omega, fun S1 e1 r1 er => ⟨fun y => absurd y ?_, fun _ => ?_⟩⟩
      · rw [er, es]
        show ¬ nI (S.2.2.1 - 1) < nI 0
        rw [nI_ltI (by omega) (by decide)]
        omega
      · obtain ⟨a, fa, La⟩ := h5 j (Nat.le_refl _) hjd hj8
        have g1 : S1 = (S.2.1 (S.2.2.1 - 1), S.2.1, S.2.2.1 - 1, S.2.2.2) := by rw [e1, es]
        have gd : S1.1 = S0.2.1 (S0.2.2.1 - 1 - j) := by
          rw [g1]
          show S.2.1 (S.2.2.1 - 1) = _
          rw [h1, h2, show S0.2.2.1 - j - 1 = S0.2.2.1 - 1 - j by omega]
        refine ⟨9, f, j, h4, rfl, by omega, by decide, a, fa, 17600, by omega, ?_⟩
        rw [← gd] at La o2 o3
        refine agrees_LB o2 o3 La (Nat.le_refl _) (fun m' F' L' => ⟨fun y => absurd y (by decide), fun _ => ?_⟩)
        unfold wpL_law_b1287
        rw [li1, nI_add]
        have n5 : ¬ exK k0 k1 a 5 v7 := fun w => by
          rcases w with w | w | w <;> exact absurd w.1 (by decide)
        refine undo_L (k0 := k0) (k1 := k1) hA hn8 hd2 hok hinj r (j + 1) _ S1 m' (by omega) (by omega) ⟨o2, o3, by rw [g1]; exact h1, by rw [g1]; show S.2.2.1 - 1 = _; rw [h2]; omega, by rw [g1]; exact h3, F'.Q n5 h4, fun i hi hid hi8 => ?_⟩
        obtain ⟨a', fa', La'⟩ := h5 i (by omega) hid hi8
        refine ⟨a', fa', La'.other F' (fun e => ?_)⟩
        rw [e] at fa'
        have := hinj i j a hid hjd hi8 hj8 fa' fa
        omega
theorem l1242_s {S : ivS} {m : Mu} {u done : Nat} (h : INV S m b v5 v7 done) (hd : done < 100) (hu : u + 150000 ≤ cB) : wpL_law_b1242 cB Post S m u 1 v7 (nI done) := by
  obtain ⟨hO, hS, hn, -, -, k0, k1, -, f, h1, -, h3, h4⟩ := h
  unfold wpL_law_b1242
  refine ⟨9, undo_L (A := 17600) (S0 := S) (k0 := k0) (k1 := k1) (f := f) rfl hn.1 hd (fun i h1 h2 => ?_) h4 8 0 u S m rfl (by omega) ⟨hO, hS, rfl, rfl, hn.2, h1, fun i _ hi hi8 => ?_⟩⟩
  · obtain ⟨g1, a, g2, g3, g4, g5⟩ := h3 i h1 h2
    exact ⟨g1, g4, g5⟩
  · obtain ⟨g1, a, g2, g3, -⟩ := h3 i hi hi8
    exact ⟨a, g2, g3⟩
end UN2
