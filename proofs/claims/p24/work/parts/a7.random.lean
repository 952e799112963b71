/-! A BOOK AT RANDOM: written, loaded, made -/
section RND
variable {S0 S : ivS} {m0 mu mu' : Mu} {bu rn b : Nat} {T : List Nat} {hc hl : Bool} {dd : Nat → Int32} {c ps st : Nat} {g wd : Nat → Nat} {bs : Option Nat × Option Nat × Int32} {cB u : Nat}
def FIN (S0 : ivS) (m0 : Mu) (bu rn b : Nat) (Post : Nat → ivS → Mu → Prop) : Prop := ∀ (S' : ivS) (m' : Mu) (dd : Nat → Int32) (c ps st : Nat) (g wd : Nat → Nat) (bs : Option Nat × Option Nat × Int32), Fx (exN bu rn) m0 m' → (∃ tx, S' = (dd, pushH S0.2.1 S0.2.2.1 S0.1, pushN S0.2.2.1, tx, 0, -1)) → OkB dd → Sm dd → BK m' b dd c ps st g wd bs → OWN m0 b c st g wd dd → (∃ x, mR m' rn = some x) → Post b S' m'
theorem b334_s {Post : Nat → ivS → Mu → Prop} (h : RSt S0 m0 bu rn S mu b T hc hl dd c ps st g wd bs) (hu : u + 1 ≤ cB) (hP : FIN S0 m0 bu rn b Post) : wpL_randomBook_b334 cB Post S mu u bu b (nI (dP dd)) := by
  have hW := h.2.1
  have hR := h.2.2.2.1
  have own := h.2.2.2.2.2.1
  unfold wpL_randomBook_b334
  refine ⟨1, hu, loadText_s hW (Nat.le_refl _) (fun S1 S' r' m' f hS1 hS' hr' => ?_)⟩
  obtain ⟨tx, n, e1, h1, h2, h3⟩ := hS1
  have eL : s_load S1 (nI T.length) = (0, nI (dP dd), true, (dd, pushH S0.2.1 S0.2.2.1 S0.1, pushN S0.2.2.1, tx, 0, -1)) := by
    rw [e1]
    unfold s_load
    rw [cif_y ⟨T.length, by show T.length < n + 1; omega, rfl⟩]
    show (match pText tx (nz (nI T.length)) with | .inl (c, o) => _ | .inr (_, dd) => _) = _
    rw [nz_nI (by omega), RD_end hR h3]
  rw [eL] at hS' hr'
  have er : r' = nI (dP dd) := hr'.trans (an1_0 rfl)
  obtain ⟨x, hx⟩ := h.2.2.1
  refine ⟨fun z => absurd er z, fun _ => ⟨hu, hP S' m' dd c ps st g wd bs (fx_app h.1 f (fun t a w => Or.inl (Or.inl w))) ⟨tx, hS'⟩ (RD_ok hR) h.2.2.2.2.2.2.1 (h.2.2.2.2.1.fx f (fun w => absurd w.1 (by decide)) (fun w => h.nbu own.2.1 w.2) (fun w => h.nbu own.2.2.1 w.2) (fun w => absurd w.1 (by decide)) (fun p hp => ⟨fun w => absurd w.1 (by decide), fun w => h.nbu (own.2.2.2.2.1 p hp).2.1 w.2⟩)) own ⟨x, f.R (fun w => absurd w.1 (by decide)) hx⟩⟩⟩
/-- costs at random -/
def l6 (ns : Nat → Nat) : List Nat := [ns 0, ns 1, ns 2, ns 3, ns 4, ns 5]
theorem l6_get {ns : Nat → Nat} {k : Nat} (hk : k < 6) : (l6 ns).getD k 0 = ns k := by
  have : k = 0 ∨ k = 1 ∨ k = 2 ∨ k = 3 ∨ k = 4 ∨ k = 5 := by omega
  rcases this with rfl | rfl | rfl | rfl | rfl | rfl <;> rfl
theorem l6_mem {ns : Nat → Nat} {v : Nat} (h : v ∈ l6 ns) : ∃ k, k < 6 ∧ v = ns k := by
  unfold l6 at h
  simp only [List.mem_cons, List.not_mem_nil, or_false] at h
  rcases h with h | h | h | h | h | h
  · exact ⟨0, by decide, h⟩
  · exact ⟨1, by decide, h⟩
  · exact ⟨2, by decide, h⟩
  · exact ⟨3, by decide, h⟩
  · exact ⟨4, by decide, h⟩
  · exact ⟨5, by decide, h⟩
def exC (c rn : Nat) : Nat → Nat → Prop := fun t a => (t = 0 ∧ a = c) ∨ (t = 4 ∧ a = rn)
theorem costs_L {Post : Nat → ivS → Mu → Prop} (h : RSt S0 m0 bu rn S mu b T false hl dd c ps st g wd bs) (hT : T.length + 30 ≤ 680) (hu : u + 1 ≤ cB) (hP : FIN S0 m0 bu rn b Post) : ∀ r k : Nat, k + r = 6 → ∀ (mk' : Mu) (ns : Nat → Nat) (f : Nat → Int32), Fx (exC c rn) mu mk' → mI mk' c = some (6, f) → (∀ i, i < k → f i = nI (ns i) ∧ ns i < 30) → (∃ x, mR mk' rn = some x) → wpL_randomBook_L297 cB Post (r + 1) S mk' u bu rn b (nI (dP dd)) (nI k)
  | r, k, hk, m1, ns, f, hf, hc1, hn, ⟨x, hx⟩ => by
    have own := h.2.2.2.2.2.1
    have hB := h.2.2.2.2.1
    have hb1 := hf.B (a := b) (fun w => w.elim (fun w => absurd w.1 (by decide)) (fun w => absurd w.1 (by decide))) hB.1
    unfold wpL_randomBook_L297
    refine ⟨fun z => ⟨_, hb1, c, rfl, 0, by omega, ?_⟩, fun z => ⟨_, hb1, c, rfl, x, hx, by omega, ?_⟩⟩
    · have e : k = 6 := by
        have := (nI_leI (by decide) (by omega)).mp (show nI 6 ≤ nI k from z)
        omega
      subst e
      have W1 := h.2.1.fx hf (fun w => w.elim (fun w => h.nbu own.2.1 w.2.symm) (fun w => absurd w.1 (by decide)))
      refine writeAll_K_s (ns := l6 ns) (by decide) W1 (h.nbu own.2.1) hc1 (fun i hi => ?_) (show 6 ≤ 100 by decide) (by show T.length + (stL 1).length + 3 * 6 + 1 ≤ 680; rw [stL_fst.2.1]; show T.length + 5 + 18 + 1 ≤ 680; omega) (fun S' m' f' W' => ?_)
      · rw [l6_get hi]
        have := hn i hi
        exact ⟨this.1, by omega⟩
      · obtain ⟨fc, R1, R2⟩ := RD_costs h.2.2.2.1 (ns := l6 ns) rfl (fun v hv => by obtain ⟨i, hi, e⟩ := l6_mem hv; have := (hn i hi).2; omega)
        have eP : dP (costD dd fc) = dP dd := congrArg nz (cost_eq (by omega))
        rw [← eP]
        have hne : ∀ p, p < dP dd → wd p ≠ c := fun p hp => (own.2.2.2.2.1 p hp).2.2.1
        have F1 : Fx (fun t a => exC c rn t a ∨ exR bu t a) mu m' := (hf.mono (fun t a => Or.inl)).trans (f'.mono (fun t a => Or.inr))
        have nB : ¬ (exC c rn 2 b ∨ exR bu 2 b) := fun w => w.elim (fun w => w.elim (fun w => absurd w.1 (by decide)) (fun w => absurd w.1 (by decide))) (fun w => absurd w.1 (by decide))
        have nI0 : ∀ a, a ≠ c → a ≠ bu → ¬ (exC c rn 0 a ∨ exR bu 0 a) := fun a a1 a2 w => w.elim (fun w => w.elim (fun w => a1 w.2) (fun w => absurd w.1 (by decide))) (fun w => a2 w.2)
        have B' : BK m' b (costD dd fc) c ps st g wd bs := by
          obtain ⟨k1, -, ⟨qq, k3, k3'⟩, k4, ft, kt⟩ := hB
          refine ⟨?_, ⟨f, f'.I (fun w => h.nbu own.2.1 w.2) hc1, fun i hi => ?_⟩, ⟨qq, ?_, fun p hp => k3' p (by rw [eP] at hp; exact hp)⟩, fun p hp => ?_, ⟨ft, F1.I (nI0 st own.2.2.2.1.symm (h.nbu own.2.2.1)) kt⟩⟩
          · rw [cost_eq (by omega), cost_eq (by omega), cost_eq (by omega), cost_eq (by omega)]
            exact F1.B nB k1
          · rw [cost_in hi, R2 i hi, l6_get hi]
            exact (hn i hi).1
          · rw [eP]
            exact F1.Q (fun w => w.elim (fun w => w.elim (fun w => absurd w.1 (by decide)) (fun w => absurd w.1 (by decide))) (fun w => absurd w.1 (by decide))) k3
          · rw [eP] at hp
            obtain ⟨j1, fj, j2, j3⟩ := k4 p hp
            have en : dN (costD dd fc) p = dN dd p := congrArg nz (cost_eq (by omega))
            rw [cost_eq (by omega), cost_eq (by omega), cost_eq (by omega), en]
            exact ⟨F1.P (fun w => w.elim (fun w => w.elim (fun w => absurd w.1 (by decide)) (fun w => absurd w.1 (by decide))) (fun w => absurd w.1 (by decide))) j1, fj, F1.I (nI0 _ (hne p hp) (h.nbu (own.2.2.2.2.1 p hp).2.1)) j2, fun k hk => by rw [cost_eq (by omega)]; exact j3 k hk⟩
        have own' : OWN m0 b c st g wd (costD dd fc) := by
          obtain ⟨o1, o2, o3, o4, o5, o6⟩ := own
          exact ⟨o1, o2, o3, o4, by rw [eP]; exact o5, by rw [eP]; exact o6⟩
        refine b334_s (hc := true) (hl := hl) ⟨fx_app h.1 F1 (fun t a w => ?_), W', ⟨x, f'.R (fun w => absurd w.1 (by decide)) hx⟩, R1, B', own', cost_Sm h.2.2.2.2.2.2.1 (fun i hi => by rw [R2 i hi, l6_get hi]; have := (hn i hi).2; omega), h.2.2.2.2.2.2.2⟩ (by omega) hP
        rcases w with (w | w) | w
        · exact Or.inr (by rw [w.2]; exact own.2.1)
        · exact Or.inl (Or.inr w)
        · exact Or.inl (Or.inl w)
    · have hk6 : k < 6 := by
        rcases Nat.lt_or_ge k 6 with y | y
        · exact y
        · exact absurd (show nI 6 ≤ nI k from nI_le y (by omega)) z
      cases r with
      | zero => exact absurd hk (by omega)
      | succ r =>
        refine below_s (n := 30) hx (by decide) (by decide) (fun v x' hv => ⟨6, f, k, hc1, rfl, hk6, by decide, fun m5 e5 => ?_⟩)
        rw [li1, nI_add]
        refine costs_L h hT hu hP r (k + 1) (by omega) m5 (upN ns k v) (upd f k (nI v)) ?_ (by rw [e5]; exact up_s) (fun i hi => ?_) ⟨x', by rw [e5]; exact up_s⟩
        · rw [e5]
          exact hf.trans ((Fx.sR (Or.inl (Or.inr ⟨rfl, rfl⟩))).trans (Fx.sI (Or.inl (Or.inl ⟨rfl, rfl⟩))))
        · by_cases y : i = k
          · subst y
            rw [pk_us, upN_s]
            exact ⟨rfl, hv⟩
          · rw [pk_un y, upN_n y]
            exact hn i (by omega)
end RND
