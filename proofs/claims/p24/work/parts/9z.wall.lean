/-! A STATEMENT IS WRITTEN -/
/-- numbers, each behind a space -/
def nmT : List Nat → List Nat
  | [] => []
  | v :: ns => 32 :: (dgs v ++ nmT ns)
def stmT (w : List Nat) (ns : List Nat) : List Nat := w ++ (nmT ns ++ [59])
theorem nmT_app : ∀ (a : List Nat) (v : Nat), nmT (a ++ [v]) = nmT a ++ (32 :: dgs v)
  | [], v => by show 32 :: (dgs v ++ []) = _; rw [List.append_nil]; rfl
  | x :: a, v => by
    show 32 :: (dgs x ++ nmT (a ++ [v])) = _
    rw [nmT_app a v, ← List.append_assoc]
    rfl
theorem nmT_len : ∀ (a : List Nat), (nmT a).length ≤ 3 * a.length
  | [] => Nat.le_refl _
  | x :: a => by
    have h1 := nmT_len a
    have h2 := (dgs_len x).1
    show (dgs x ++ nmT a).length + 1 ≤ 3 * (a.length + 1)
    rw [List.length_append]
    omega
section WALL
variable {S0 S : ivS} {m m' : Mu} {bu : Nat} {T : List Nat} {cB : Nat}
theorem stL6 : stL 6 = [32] := by decide
theorem stL7 : stL 7 = [59] := by decide
theorem nr128 : ∀ k, k < 128 → (((nI k &&& (255 : Int32)).toUInt32 % 65536).toInt32) = nI k ∧ narrow .char (.int (nI k)) = .int (nI k) := by decide
theorem lenD_s {v : Nat} {L : List Nat} {Post : Int32 → Prop} (hS : STR m v L) (hl : L.length ≤ 100) (hP : Post (nI L.length)) : wpJ0_length_8abf5_D m v Post := by
  obtain ⟨a, h1, h2, f, k1, k2, k3⟩ := hS
  unfold wpJ0_length_8abf5_D wpJ0_coder_7d493_D
  refine ⟨_, k1, a, rfl, _, f, k2, _, k1, _, k1, rfl, ?_⟩
  have e : ((0 : Int32) &&& 31) = nI 0 := by decide
  show Post (nI L.length >>> ((0 : Int32) &&& 31))
  rw [e]
  rw [nI_shr (by omega) (by omega), show L.length / 2 ^ 0 = L.length by omega]
  exact hP
theorem chD_s {v k : Nat} {L : List Nat} {Post : Int32 → Prop} (hS : STR m v L) (hl : L.length ≤ 100) (hk : k < L.length) (hP : Post (nI (L.getD k 0))) : wpJ0_charAt_5068e_D m v (nI k) Post := by
  obtain ⟨a, h1, h2, f, k1, k2, k3⟩ := hS
  obtain ⟨g1, g2⟩ := k3 k hk
  obtain ⟨n1, n2⟩ := nr128 _ g2
  unfold wpJ0_charAt_5068e_D wpJ0_isLatin1_aae02_D wpJ1_charAt_3b067_D
  refine ⟨_, k1, _, k1, fun z => absurd rfl z, fun _ => ⟨fun z => absurd z (by decide), fun _ => ⟨_, k1, a, rfl, _, f, k2, ?_, (nI_ltI (by omega) (by omega)).mpr hk, _, f, k, k2, rfl, hk, by omega, ?_, ?_, ?_⟩⟩⟩
  · show ¬ nI k < nI 0
    rw [nI_ltI (by omega) (by decide)]
    omega
  · rw [g1, n1]
    exact n2
  · rw [g1, n1]
    exact n2
  · rw [g1, n1]
    exact hP
theorem write_D_L {Post : ivS → Mu → Prop} {v : Nat} {L : List Nat} (hS : STR m v L) (hl1 : L.length ≤ 100) (hl : T.length + L.length ≤ 680) (hP : ∀ S' m', Fx (exR bu) m m' → WB S0 S' m' bu (T ++ L) → Post S' m') : ∀ r k : Nat, k + r = L.length → ∀ S' m', Fx (exR bu) m m' → WB S0 S' m' bu (T ++ L.take k) → wpL_write_D_L2 cB Post (r + 1) S' m' 0 bu v (nI k)
  | r, k, hk, S', m', hf, hW => by
    have hS' := hS.fx hf
    have hS2 := hS'
    obtain ⟨a, h1, h2, f, k1, k2, k3⟩ := hS'
    unfold wpL_write_D_L2
    refine ⟨_, k1, Nat.zero_le _, lenD_s hS2 hl1 ⟨fun z => ⟨Nat.zero_le _, ?_⟩, fun z => ⟨_, k1, Nat.zero_le _, ?_⟩⟩⟩
    · have e : k = L.length := by
        have := (nI_leI (by omega) (by omega)).mp z
        omega
      rw [e, List.take_length] at hW
      exact hP S' m' hf hW
    · have hkl : k < L.length := by
        rcases Nat.lt_or_ge k L.length with y | y
        · exact y
        · exact absurd (nI_le y (by omega)) z
      cases r with
      | zero => exact absurd hk (by omega)
      | succ r =>
        refine chD_s hS2 hl1 hkl ⟨0, Nat.zero_le _, ?_⟩
        refine put_s hW (k3 k hkl).2 (by rw [List.length_append, List.length_take]; omega) (fun S2 m2 f2 W2 => ?_)
        rw [li1, nI_add]
        refine write_D_L hS hl1 hl hP r (k + 1) (by omega) S2 m2 (hf.trans f2) ?_
        have et : L.take (k + 1) = L.take k ++ [L.getD k 0] := by
          rw [List.take_succ, List.getD_eq_getElem?_getD, List.getElem?_eq_getElem hkl]
          rfl
        rw [et, ← List.append_assoc]
        exact W2
theorem write_D_s {Post : ivS → Mu → Prop} {v : Nat} {L : List Nat} (hS : STR m v L) (hl1 : L.length ≤ 100) (hW : WB S0 S m bu T) (hl : T.length + L.length ≤ 680) (hP : ∀ S' m', Fx (exR bu) m m' → WB S0 S' m' bu (T ++ L) → Post S' m') : wpL_write_D cB S m bu v Post :=
  ⟨L.length + 1, write_D_L hS hl1 hl hP _ 0 (Nat.zero_add _) S m Fx.rf (by rw [List.take_zero, List.append_nil]; exact hW)⟩
theorem WB.len (h : WB S0 S m bu T) : T.length ≤ 680 := h.2.elim (fun f z => z.2.1)
theorem writeAll_K_L {Post : ivS → Mu → Prop} {i : Nat} {vr : Nat} {ns : List Nat} {g : Nat → Int32} (hv : vr ≠ bu) (hr : mI m vr = some (ns.length, g)) (hg : ∀ k, k < ns.length → g k = nI (ns.getD k 0) ∧ ns.getD k 0 < 100) (hn : ns.length ≤ 100) (hl : T.length + 3 * ns.length + 1 ≤ 680) (hP : ∀ S' m', Fx (exR bu) m m' → WB S0 S' m' bu (T ++ (nmT ns ++ [59])) → Post S' m') : ∀ r k : Nat, k + r = ns.length → ∀ S' m', Fx (exR bu) m m' → WB S0 S' m' bu (T ++ nmT (ns.take k)) → wpL_writeAll_K_L17 cB i Post (r + 1) S' m' 0 bu vr (nI ns.length) (nI k)
  | r, k, hk, S', m', hf, hW => by
    have hnl := nmT_len (ns.take k)
    rw [List.length_take] at hnl
    unfold wpL_writeAll_K_L17
    refine ⟨fun z => ⟨0, Nat.zero_le _, ?_⟩, fun z => ?_⟩
    · have e : k = ns.length := by
        have := (nI_leI (by omega) (by omega)).mp z
        omega
      rw [e, List.take_length] at hW hnl
      refine write_K_s (by decide) hW (by rw [List.length_append, stL7]; show T.length + (nmT ns).length + 1 ≤ 680; omega) (fun S2 m2 f2 W2 => ⟨Nat.zero_le _, hP S2 m2 (hf.trans f2) ?_⟩)
      rw [stL7, List.append_assoc] at W2
      exact W2
    · have hkl : k < ns.length := by
        rcases Nat.lt_or_ge k ns.length with y | y
        · exact y
        · exact absurd (nI_le y (by omega)) z
      cases r with
      | zero => exact absurd hk (by omega)
      | succ r =>
        obtain ⟨g1, g2⟩ := hg k hkl
        have hr' := hf.I (fun w => hv w.2) hr
        refine ⟨_, g, k, hr', rfl, hkl, by omega, 0, Nat.zero_le _, ?_⟩
        refine write_K_s (by decide) hW (by rw [List.length_append, stL6]; show T.length + _ + 1 ≤ 680; omega) (fun S2 m2 f2 W2 => ⟨0, Nat.zero_le _, ?_⟩)
        rw [g1]
        refine writeNumber_s g2 W2 (by rw [List.length_append, List.length_append, stL6]; show T.length + _ + 1 + 2 ≤ 680; omega) (fun S3 m3 f3 W3 => ?_)
        rw [li1, nI_add]
        refine writeAll_K_L hv hr hg hn hl hP r (k + 1) (by omega) S3 m3 (hf.trans (f2.trans f3)) ?_
        have et : ns.take (k + 1) = ns.take k ++ [ns.getD k 0] := by
          rw [List.take_succ, List.getD_eq_getElem?_getD, List.getElem?_eq_getElem hkl]
          rfl
        rw [et, nmT_app, ← List.append_assoc]
        rw [stL6, List.append_assoc] at W3
        exact W3
theorem writeAll_D_L {Post : ivS → Mu → Prop} {vr : Nat} {ns : List Nat} {g : Nat → Int32} (hv : vr ≠ bu) (hr : mI m vr = some (ns.length, g)) (hg : ∀ k, k < ns.length → g k = nI (ns.getD k 0) ∧ ns.getD k 0 < 100) (hn : ns.length ≤ 100) (hl : T.length + 3 * ns.length + 1 ≤ 680) (hP : ∀ S' m', Fx (exR bu) m m' → WB S0 S' m' bu (T ++ (nmT ns ++ [59])) → Post S' m') : ∀ r k : Nat, k + r = ns.length → ∀ S' m', Fx (exR bu) m m' → WB S0 S' m' bu (T ++ nmT (ns.take k)) → wpL_writeAll_D_L17 cB Post (r + 1) S' m' 0 bu vr (nI ns.length) (nI k)
  | r, k, hk, S', m', hf, hW => by
    have hnl := nmT_len (ns.take k)
    rw [List.length_take] at hnl
    unfold wpL_writeAll_D_L17
    refine ⟨fun z => ⟨0, Nat.zero_le _, ?_⟩, fun z => ?_⟩
    · have e : k = ns.length := by
        have := (nI_leI (by omega) (by omega)).mp z
        omega
      rw [e, List.take_length] at hW hnl
      refine write_K_s (by decide) hW (by rw [List.length_append, stL7]; show T.length + (nmT ns).length + 1 ≤ 680; omega) (fun S2 m2 f2 W2 => ⟨Nat.zero_le _, hP S2 m2 (hf.trans f2) ?_⟩)
      rw [stL7, List.append_assoc] at W2
      exact W2
    · have hkl : k < ns.length := by
        rcases Nat.lt_or_ge k ns.length with y | y
        · exact y
        · exact absurd (nI_le y (by omega)) z
      cases r with
      | zero => exact absurd hk (by omega)
      | succ r =>
        obtain ⟨g1, g2⟩ := hg k hkl
        have hr' := hf.I (fun w => hv w.2) hr
        refine ⟨_, g, k, hr', rfl, hkl, by omega, 0, Nat.zero_le _, ?_⟩
        refine write_K_s (by decide) hW (by rw [List.length_append, stL6]; show T.length + _ + 1 ≤ 680; omega) (fun S2 m2 f2 W2 => ⟨0, Nat.zero_le _, ?_⟩)
        rw [g1]
        refine writeNumber_s g2 W2 (by rw [List.length_append, List.length_append, stL6]; show T.length + _ + 1 + 2 ≤ 680; omega) (fun S3 m3 f3 W3 => ?_)
        rw [li1, nI_add]
        refine writeAll_D_L hv hr hg hn hl hP r (k + 1) (by omega) S3 m3 (hf.trans (f2.trans f3)) ?_
        have et : ns.take (k + 1) = ns.take k ++ [ns.getD k 0] := by
          rw [List.take_succ, List.getD_eq_getElem?_getD, List.getElem?_eq_getElem hkl]
          rfl
        rw [et, nmT_app, ← List.append_assoc]
        rw [stL6, List.append_assoc] at W3
        exact W3
theorem writeAll_K_s {Post : ivS → Mu → Prop} {i vr : Nat} {ns : List Nat} {g : Nat → Int32} (hi : i < 10) (hW : WB S0 S m bu T) (hv : vr ≠ bu) (hr : mI m vr = some (ns.length, g)) (hg : ∀ k, k < ns.length → g k = nI (ns.getD k 0) ∧ ns.getD k 0 < 100) (hn : ns.length ≤ 100) (hl : T.length + (stL i).length + 3 * ns.length + 1 ≤ 680) (hP : ∀ S' m', Fx (exR bu) m m' → WB S0 S' m' bu (T ++ stmT (stL i) ns) → Post S' m') : wpL_writeAll_K cB S m bu i vr Post := by
  unfold wpL_writeAll_K
  refine ⟨0, Nat.zero_le _, write_K_s hi hW (by omega) (fun S1 m1 f1 W1 => ⟨_, g, f1.I (fun w => hv w.2) hr, ns.length + 1, ?_⟩)⟩
  refine writeAll_K_L (T := T ++ stL i) hv (f1.I (fun w => hv w.2) hr) hg hn (by rw [List.length_append]; omega) (fun S2 m2 f2 W2 => hP S2 m2 (f1.trans f2) ?_) _ 0 (Nat.zero_add _) S1 m1 Fx.rf (by rw [List.take_zero]; show WB S0 S1 m1 bu (T ++ stL i ++ []); rw [List.append_nil]; exact W1)
  rw [List.append_assoc] at W2
  exact W2
theorem writeAll_D_s {Post : ivS → Mu → Prop} {v vr : Nat} {L : List Nat} {ns : List Nat} {g : Nat → Int32} (hS : STR m v L) (hl1 : L.length ≤ 100) (hW : WB S0 S m bu T) (hv : vr ≠ bu) (hr : mI m vr = some (ns.length, g)) (hg : ∀ k, k < ns.length → g k = nI (ns.getD k 0) ∧ ns.getD k 0 < 100) (hn : ns.length ≤ 100) (hl : T.length + L.length + 3 * ns.length + 1 ≤ 680) (hP : ∀ S' m', Fx (exR bu) m m' → WB S0 S' m' bu (T ++ stmT L ns) → Post S' m') : wpL_writeAll_D cB S m bu v vr Post := by
  unfold wpL_writeAll_D
  refine ⟨0, Nat.zero_le _, write_D_s hS hl1 hW (by omega) (fun S1 m1 f1 W1 => ⟨_, g, f1.I (fun w => hv w.2) hr, ns.length + 1, ?_⟩)⟩
  refine writeAll_D_L (T := T ++ L) hv (f1.I (fun w => hv w.2) hr) hg hn (by rw [List.length_append]; omega) (fun S2 m2 f2 W2 => hP S2 m2 (f1.trans f2) ?_) _ 0 (Nat.zero_add _) S1 m1 Fx.rf (by rw [List.take_zero]; show WB S0 S1 m1 bu (T ++ L ++ []); rw [List.append_nil]; exact W1)
  rw [List.append_assoc] at W2
  exact W2
end WALL
