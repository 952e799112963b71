/-! EDITS OF THE LAW'S BOOK -/
section EDB
variable {k0 k1 k0' k1' : Nat → Nat} {m m' : Mu} {b : Nat} {d d' : Nat → Int32} {c ps st : Nat} {g wd : Nat → Nat} {bs : Option Nat × Option Nat × Int32} {cB : Nat}
/-- one paragraph's cell is changed, one row is its own -/
theorem par_BK {w' p : Nat} (hO : OkB d) (hB : BK m b d c ps st g wd bs) (hp : p < dP d) (hd : ∀ j, j < 11 → d' j = d j) (hq : ∀ q, q < dP d → q ≠ p → ParEq d q d' q) (f : Fx (fun t a => t = 1 ∧ a = g p) m m') (hi : ∀ p p', p < dP d → p' < dP d → g p = g p' → p = p') (h1 : mP m' (g p) = some (d' (11 + 34 * p), d' (11 + 34 * p + 1), d' (11 + 34 * p + 2), some w')) (h2 : ∃ f, mI m' w' = some (dN d' p, f) ∧ ∀ k, k < dN d' p → f k = d' (11 + 34 * p + (4 + k))) : BK m' b d' c ps st g (fun q => if q = p then w' else wd q) bs := by
  obtain ⟨k1, ⟨fc, kc, kc'⟩, ⟨qq, k3, k3'⟩, k4, ft, kt⟩ := hB
  have eP : dP d' = dP d := congrArg nz (hd 4 (by decide))
  have n0 : ∀ a, ¬ (0 = 1 ∧ a = g p) := fun a w => absurd w.1 (by decide)
  refine ⟨?_, ⟨fc, f.I (n0 c) kc, fun k hk => by rw [hd (5 + k) (by omega)]; exact kc' k hk⟩, ⟨qq, ?_, fun q hq' => k3' q (by rw [eP] at hq'; exact hq')⟩, fun q hq' => ?_, ⟨ft, f.I (n0 st) kt⟩⟩
  · rw [hd 0 (by decide), hd 1 (by decide), hd 2 (by decide), hd 3 (by decide)]
    exact f.B (fun w => absurd w.1 (by decide)) k1
  · rw [eP]
    exact f.Q (fun w => absurd w.1 (by decide)) k3
  · rw [eP] at hq'
    by_cases y : q = p
    · subst y
      show mP m' (g q) = some (_, _, _, some (if q = q then w' else wd q)) ∧ ∃ f, mI m' (if q = q then w' else wd q) = _ ∧ _
      rw [if_pos rfl]
      exact ⟨h1, h2⟩
    · obtain ⟨e0, e1, e2, e3, e4⟩ := (hq q hq' y).rows
      obtain ⟨j1, fj, j2, j3⟩ := k4 q hq'
      have n30 := hO.n30 hq'
      show mP m' (g q) = some (_, _, _, some (if q = p then w' else wd q)) ∧ ∃ f, mI m' (if q = p then w' else wd q) = _ ∧ _
      rw [if_neg y, e0, e1, e2, e3]
      exact ⟨f.P (fun w => y (hi q p hq' hp w.2)) j1, fj, f.I (n0 _) j2, fun k hk => by rw [e4 k (by omega)]; exact j3 k hk⟩
/-- a cost is changed -/
theorem cost_BK {k v : Nat} {fc : Nat → Int32} (hB : BK m b d c ps st g wd bs) (hk : k < 6) (hc : mI m c = some (6, fc)) (hcst : c ≠ st) (hw : ∀ p, p < dP d → wd p ≠ c) : BK (sI m c (6, upd fc k (nI v))) b (upd d (5 + k) (nI v)) c ps st g wd bs := by
  obtain ⟨k1, ⟨fc', kc, kc'⟩, ⟨qq, k3, k3'⟩, k4, ft, kt⟩ := hB
  rw [hc] at kc
  cases kc
  have eu : ∀ {j}, j ≠ 5 + k → upd d (5 + k) (nI v) j = d j := fun h => pk_un h
  have eP : dP (upd d (5 + k) (nI v)) = dP d := congrArg nz (eu (by omega))
  refine ⟨?_, ⟨upd fc k (nI v), up_s, fun i hi => ?_⟩, ⟨qq, ?_, fun q hq' => k3' q (by rw [eP] at hq'; exact hq')⟩, fun q hq' => ?_, ⟨ft, up_k hcst.symm kt⟩⟩
  · rw [eu (by omega), eu (by omega), eu (by omega), eu (by omega)]
    exact k1
  · by_cases y : i = k
    · subst y
      rw [pk_us, pk_us]
    · rw [pk_un y, eu (by omega)]
      exact kc' i hi
  · rw [eP]
    exact k3
  · rw [eP] at hq'
    obtain ⟨j1, fj, j2, j3⟩ := k4 q hq'
    have en : dN (upd d (5 + k) (nI v)) q = dN d q := congrArg nz (eu (by omega))
    rw [eu (by omega), eu (by omega), eu (by omega), en]
    exact ⟨j1, fj, up_k (hw q hq') j2, fun i hi => by rw [eu (by omega)]; exact j3 i hi⟩
/-! smallness -/
theorem Sm_par {p : Nat} (hS : Sm d) (hd : ∀ j, j < 11 → d' j = d j) (hq : ∀ q, q < dP d → q ≠ p → ParEq d q d' q) (hn : dN d' p ≤ 5) : Sm d' := by
  have eP : dP d' = dP d := congrArg nz (hd 4 (by decide))
  refine ⟨by rw [eP]; exact hS.1, ?_, ?_, fun k hk => ?_, fun q hq' => ?_, ?_, ?_⟩
  · rw [show dH d' = dH d from congrArg nz (hd 1 (by decide))]; exact hS.2.1
  · rw [show dL d' = dL d from congrArg nz (hd 3 (by decide))]; exact hS.2.2.1
  · rw [show dC d' k = dC d k from congrArg nz (hd (5 + k) (by omega))]; exact hS.2.2.2.1 k hk
  · rw [eP] at hq'
    by_cases y : q = p
    · rw [y]; exact hn
    · rw [((hq q hq' y).rows).2.2.2.1]; exact hS.2.2.2.2.1 q hq'
  · rw [show dW d' = dW d from congrArg nz (hd 0 (by decide))]; exact hS.2.2.2.2.2.1
  · rw [show dS d' = dS d from congrArg nz (hd 2 (by decide))]; exact hS.2.2.2.2.2.2
theorem Sm_head (hS : Sm d) (hd : HeadEq d d') (hP : dP d' ≤ 3) (hn : ∀ p, p < dP d' → dN d' p ≤ 5) : Sm d' := by
  refine ⟨hP, ?_, ?_, fun k hk => ?_, hn, ?_, ?_⟩
  · rw [show dH d' = dH d from congrArg nz (hd 1 (by decide) (by decide))]; exact hS.2.1
  · rw [show dL d' = dL d from congrArg nz (hd 3 (by decide) (by decide))]; exact hS.2.2.1
  · rw [show dC d' k = dC d k from congrArg nz (hd (5 + k) (by omega) (by omega))]; exact hS.2.2.2.1 k hk
  · rw [show dW d' = dW d from congrArg nz (hd 0 (by decide) (by decide))]; exact hS.2.2.2.2.2.1
  · rw [show dS d' = dS d from congrArg nz (hd 2 (by decide) (by decide))]; exact hS.2.2.2.2.2.2
theorem Sm_cost {k v : Nat} (hS : Sm d) (hk : k < 6) (hv : v ≤ 39) : Sm (upd d (5 + k) (nI v)) := by
  have eu : ∀ {j}, j ≠ 5 + k → upd d (5 + k) (nI v) j = d j := fun h => pk_un h
  have eP : dP (upd d (5 + k) (nI v)) = dP d := congrArg nz (eu (by omega))
  refine ⟨by rw [eP]; exact hS.1, ?_, ?_, fun i hi => ?_, fun q hq' => ?_, ?_, ?_⟩
  · rw [show dH (upd d (5 + k) (nI v)) = dH d from congrArg nz (eu (by omega))]; exact hS.2.1
  · rw [show dL (upd d (5 + k) (nI v)) = dL d from congrArg nz (eu (by omega))]; exact hS.2.2.1
  · show nz (upd d (5 + k) (nI v) (5 + i)) ≤ 39
    by_cases y : i = k
    · subst y
      rw [pk_us, nz_nI (by omega)]; exact hv
    · rw [eu (by omega)]; exact hS.2.2.2.1 i hi
  · rw [eP] at hq'
    rw [show dN (upd d (5 + k) (nI v)) q = dN d q from congrArg nz (eu (by omega))]; exact hS.2.2.2.2.1 q hq'
  · rw [show dW (upd d (5 + k) (nI v)) = dW d from congrArg nz (eu (by omega))]; exact hS.2.2.2.2.2.1
  · rw [show dS (upd d (5 + k) (nI v)) = dS d from congrArg nz (eu (by omega))]; exact hS.2.2.2.2.2.2
end EDB
