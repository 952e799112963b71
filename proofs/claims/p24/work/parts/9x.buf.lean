/-! THE LAW'S BUFFER: signs are packed, handed over by twenties -/
def TB (S : ivS) (f : Nat → Int32) (T : List Nat) : Prop := T.length ≤ 680 ∧ (∀ i, T.getD i 0 < 128) ∧ f 0 = nI T.length ∧ (∀ j, j < 5 → f (1 + j) = nI (W4 (fun k => T.getD (20 * (T.length / 20) + 4 * j + k) 0))) ∧ S.2.2.2.2.1 = 20 * (T.length / 20) ∧ ∀ i, i < 20 * (T.length / 20) → S.2.2.2.1 i = T.getD i 0
def WB (S0 S : ivS) (m : Mu) (bu : Nat) (T : List Nat) : Prop := (∃ tx n, S = (S0.1, S0.2.1, S0.2.2.1, tx, n, S0.2.2.2.2.2)) ∧ ∃ f, mI m bu = some (8, f) ∧ TB S f T
def exR (bu : Nat) : Nat → Nat → Prop := fun k a => k = 0 ∧ a = bu
theorem W4_congr {c c' : Nat → Nat} (h : ∀ k, k < 4 → c k = c' k) : W4 c = W4 c' := by
  unfold W4
  rw [h 0 (by decide), h 1 (by decide), h 2 (by decide), h 3 (by decide)]
section BUF
variable {S0 S : ivS} {m m' : Mu} {bu : Nat} {T : List Nat} {cB : Nat}
theorem flush_L {Post : ivS → Mu → Prop} {u : Nat} {f : Nat → Int32} (hu : u ≤ cB) (hP : ∀ f', f' 0 = f 0 → (∀ j, j < 5 → f' (1 + j) = nI 0) → Post S (sI m bu (8, f'))) : ∀ r k : Nat, k + r = 6 → 1 ≤ k → ∀ fk : Nat → Int32, fk 0 = f 0 → (∀ j, 1 + j < k → fk (1 + j) = nI 0) → wpL_flush_L22 cB Post (r + 1) S (sI m bu (8, fk)) u bu (nI k)
  | r, k, hk, h1, fk, h2, h3 => by
    unfold wpL_flush_L22
    refine ⟨fun z => ?_, fun z => ?_⟩
    · have e : k = 6 := by
        have := (nI_leI (by decide) (by omega)).mp (show nI 6 ≤ nI k from z)
        omega
      subst e
      exact ⟨hu, hP fk h2 (fun j hj => h3 j (by omega))⟩
    · have hk6 : k < 6 := by
        rcases Nat.lt_or_ge k 6 with y | y
        · exact y
        · exact absurd (show nI 6 ≤ nI k from nI_le y (by omega)) z
      cases r with
      | zero => exact absurd hk (by omega)
      | succ r =>
        refine ⟨8, fk, k, up_s, rfl, by omega, by decide, fun mu8 e8 => ?_⟩
        have e9 : mu8 = sI m bu (8, upd fk k 0) := by
          rw [e8]
          show (va_up (va_up m.1 bu _) bu _, _) = _
          rw [up_up]
        rw [e9, li1, nI_add]
        refine flush_L hu hP r (k + 1) (by omega) (by omega) _ ((pk_un (by omega)).trans h2) (fun j hj => ?_)
        by_cases y : 1 + j = k
        · rw [y]; exact pk_us
        · exact (pk_un y).trans (h3 j (by omega))
theorem sI_id {x : ceI} (h : mI m bu = some x) : m = sI m bu x := by
  have e : va_up m.1 bu (some x) = m.1 := by
    funext j
    by_cases y : j = bu
    · subst y; rw [up_s]; exact h.symm
    · rw [up_n y]
  show m = (va_up m.1 bu (some x), _)
  rw [e]
theorem flush_s {Post : ivS → Mu → Prop} {f : Nat → Int32} {q : Nat} {c : Nat → Nat} (hm : mI m bu = some (8, f)) (hl : S.2.2.2.2.1 = 20 * q) (hq : q ≤ 34) (hf : ∀ j, j < 5 → f (1 + j) = nI (W4 (fun k => c (4 * j + k)))) (hc : ∀ i, i < 20 → c i < 128) (hP : ∀ tx f', (∀ i, i < 20 * q → tx i = S.2.2.2.1 i) → (∀ i, i < 20 → tx (20 * q + i) = c i) → f' 0 = f 0 → (∀ j, j < 5 → f' (1 + j) = nI 0) → Post (S.1, S.2.1, S.2.2.1, tx, 20 * q + 20, S.2.2.2.2.2) (sI m bu (8, f'))) : wpL_flush cB S m bu Post := by
  unfold wpL_flush
  refine ⟨8, f, 1, hm, rfl, by decide, by decide, 8, f, 2, hm, rfl, by decide, by decide, 8, f, 3, hm, rfl, by decide, by decide, 8, f, 4, hm, rfl, by decide, by decide, 8, f, 5, hm, rfl, by decide, by decide, Nat.zero_le _, fun S6 e6 r6 _ => ⟨6, ?_⟩⟩
  have eS : S6 = (S.1, S.2.1, S.2.2.1, appT S.2.2.2.1 (20 * q) (f 1) (f 2) (f 3) (f 4) (f 5), 20 * q + 20, S.2.2.2.2.2) := by
    rw [e6]
    unfold s_append
    rw [hl, if_pos (by omega)]
  rw [eS, sI_id hm]
  refine flush_L (f := f) (Nat.zero_le _) (fun f' h1 h2 => ?_) 5 1 rfl (Nat.le_refl _) f rfl (fun j hj => absurd hj (by omega))
  refine hP _ f' (fun i hi => appT_lo hi) (fun i hi => ?_) h1 h2
  obtain ⟨h3, h4⟩ := appT_hi (tx := S.2.2.2.1) (n := 20 * q) (a1 := f 1) (a2 := f 2) (a3 := f 3) (a4 := f 4) (a5 := f 5) hi
  have e5 : sel5 (f 1) (f 2) (f 3) (f 4) (f 5) (i / 4) = nI (W4 (fun k => c (4 * (i / 4) + k))) := by
    have : i / 4 = 0 ∨ i / 4 = 1 ∨ i / 4 = 2 ∨ i / 4 = 3 ∨ i / 4 = 4 := by omega
    rcases this with e | e | e | e | e <;> rw [e]
    · exact hf 0 (by decide)
    · exact hf 1 (by decide)
    · exact hf 2 (by decide)
    · exact hf 3 (by decide)
    · exact hf 4 (by decide)
  rw [e5, W4_byt (fun k hk => hc _ (by omega)) (by omega)] at h3
  have e7 : 4 * (i / 4) + i % 4 = i := by omega
  have h3 : nI (appT S.2.2.2.1 (20 * q) (f 1) (f 2) (f 3) (f 4) (f 5) (20 * q + i)) = nI (c (4 * (i / 4) + i % 4)) := h3
  rw [e7] at h3
  have := hc i hi
  exact (nI_eq (by omega) (by omega)).mp h3
theorem im20 {n : Nat} (hn : n < 2 ^ 31) : nI n - nI n / (20 : Int32) * (20 : Int32) = nI (n % 20) := by
  rw [li20, nI_div hn (by decide), pk_mul, sm_sub (by omega), show n - n / 20 * 20 = n % 20 by omega]
theorem im4 {n : Nat} (hn : n < 2 ^ 31) : nI n - nI n / (4 : Int32) * (4 : Int32) = nI (n % 4) := by
  rw [li4, nI_div hn (by decide), pk_mul, sm_sub (by omega), show n - n / 4 * 4 = n % 4 by omega]
theorem gd_app {x i : Nat} : (T ++ [x]).getD i 0 = if i = T.length then x else T.getD i 0 := by
  simp only [List.getD_eq_getElem?_getD]
  by_cases h : i < T.length
  · rw [List.getElem?_append_left h, if_neg (by omega)]
  · rw [List.getElem?_append_right (by omega)]
    by_cases h2 : i = T.length
    · subst h2; simp
    · rw [if_neg h2, List.getElem?_eq_none (by simp; omega), List.getElem?_eq_none (by omega)]
theorem put_s {Post : ivS → Mu → Prop} {x : Nat} (hW : WB S0 S m bu T) (hx : x < 128) (hl : T.length < 680) (hP : ∀ S' m', Fx (exR bu) m m' → WB S0 S' m' bu (T ++ [x]) → Post S' m') : wpL_put cB S m bu (nI x) Post := by
  obtain ⟨⟨tx, nn, eS⟩, f, hm, h1, h2, h3, h4, h5, h6⟩ := hW
  have ln : (T ++ [x]).length = T.length + 1 := by simp
  generalize hn : T.length = n at *
  have ek : (1 : Int32) + (f 0 - f 0 / (20 : Int32) * (20 : Int32)) / (4 : Int32) = nI (1 + n % 20 / 4) := by
    rw [h3, im20 (by omega), li4, nI_div (by omega) (by decide), li1, nI_add]
  have ew : f (1 + n % 20 / 4) ||| (nI x <<< (((24 : Int32) - (8 : Int32) * (f 0 - f 0 / (4 : Int32) * (4 : Int32))) &&& 31)) = nI (W4 (fun k => (T ++ [x]).getD (20 * (n / 20) + 4 * (n % 20 / 4) + k) 0)) := by
    rw [h4 (n % 20 / 4) (by omega), h3, im4 (by omega)]
    rw [W4_put (c := fun k => T.getD (20 * (n / 20) + 4 * (n % 20 / 4) + k) 0) (k := n % 4) (fun j _ => h2 _) (by omega) (fun j hj hj4 => ?_) hx]
    · congr 2
      funext j
      rw [gd_app]
      by_cases y : j = n % 4
      · rw [if_pos y, if_pos (by omega)]
      · rw [if_neg y, if_neg (by omega)]
    · show T.getD _ 0 = 0
      rw [List.getD_eq_getElem?_getD, List.getElem?_eq_none (by omega)]
      rfl
  unfold wpL_put
  refine ⟨8, f, 0, hm, rfl, by decide, by decide, 8, f, 1 + n % 20 / 4, hm, ek, by omega, by decide, 8, f, 0, hm, rfl, by decide, by decide, 8, f, 1 + n % 20 / 4, hm, ek, by omega, by decide, fun mu5 e5 => ?_⟩
  rw [ew] at e5
  have m5 : mI mu5 bu = some (8, upd f (1 + n % 20 / 4) (nI (W4 (fun k => (T ++ [x]).getD (20 * (n / 20) + 4 * (n % 20 / 4) + k) 0)))) := by rw [e5]; exact up_s
  refine ⟨8, _, 0, m5, rfl, by decide, by decide, 8, _, 0, m5, rfl, by decide, by decide, fun mu8 e8 => ?_⟩
  have f0 : upd f (1 + n % 20 / 4) (nI (W4 (fun k => (T ++ [x]).getD (20 * (n / 20) + 4 * (n % 20 / 4) + k) 0))) 0 + (1 : Int32) = nI (n + 1) := by rw [pk_un (by omega), h3, li1, nI_add]
  rw [f0] at e8
  have m8 : mI mu8 bu = some (8, upd (upd f (1 + n % 20 / 4) (nI (W4 (fun k => (T ++ [x]).getD (20 * (n / 20) + 4 * (n % 20 / 4) + k) 0)))) 0 (nI (n + 1))) := by rw [e8]; exact up_s
  have fx8 : Fx (exR bu) m mu8 := by
    rw [e8]
    refine Fx.trans (m' := mu5) ?_ (Fx.sI (Or.inl ⟨rfl, rfl⟩))
    rw [e5]
    exact Fx.sI (Or.inl ⟨rfl, rfl⟩)
  generalize hg : upd (upd f (1 + n % 20 / 4) (nI (W4 (fun k => (T ++ [x]).getD (20 * (n / 20) + 4 * (n % 20 / 4) + k) 0)))) 0 (nI (n + 1)) = g at *
  have g0 : g 0 = nI (n + 1) := by rw [← hg, pk_us]
  have gj : ∀ j, j < 5 → g (1 + j) = nI (W4 (fun k => (T ++ [x]).getD (20 * (n / 20) + 4 * j + k) 0)) := fun j hj => by
    rw [← hg, pk_un (by omega)]
    by_cases y : j = n % 20 / 4
    · subst y; rw [pk_us]
    · rw [pk_un (by omega), h4 j hj]
      exact congrArg nI (W4_congr (fun k hk => by rw [gd_app, if_neg (by omega)]))
  have c128 : ∀ i, (T ++ [x]).getD i 0 < 128 := fun i => by
    rw [gd_app]
    split
    · exact hx
    · exact h2 i
  refine ⟨8, g, 0, m8, rfl, by decide, by decide, fun z => ⟨Nat.zero_le _, ?_⟩, fun z => ⟨0, Nat.zero_le _, ?_⟩⟩
  · rw [g0, im20 (by omega)] at z
    have z : ¬ (n + 1) % 20 = 0 := fun y => z (by rw [y]; rfl)
    have ed : (n + 1) / 20 = n / 20 := by omega
    refine hP S mu8 fx8 ⟨⟨tx, nn, eS⟩, g, m8, by omega, c128, by rw [g0, ln], fun j hj => ?_, ?_, fun i hi => ?_⟩
    · rw [ln, ed]
      exact gj j hj
    · rw [ln, ed]
      exact h5
    · rw [ln, ed] at hi
      rw [h6 i hi, gd_app, if_neg (by omega)]
  · rw [g0, im20 (by omega)] at z
    have z : (n + 1) % 20 = 0 := (nI_eq (by omega) (by decide)).mp (show nI _ = nI 0 from z)
    refine flush_s (q := n / 20) (c := fun i => (T ++ [x]).getD (20 * (n / 20) + i) 0) m8 h5 (by omega) (fun j hj => ?_) (fun i _ => c128 _) (fun tx' f' t1 t2 t3 t4 => ⟨Nat.zero_le _, hP _ _ (fx8.trans (Fx.sI (Or.inl ⟨rfl, rfl⟩))) ⟨⟨tx', _, by rw [eS]⟩, f', up_s, by omega, c128, by rw [t3, g0, ln], fun j hj => ?_, ?_, fun i hi => ?_⟩⟩)
    · rw [gj j hj]
      congr 2
      funext k
      show _ = (T ++ [x]).getD (20 * (n / 20) + (4 * j + k)) 0
      rw [Nat.add_assoc]
    · rw [t4 j hj, ln]
      have : W4 (fun k => (T ++ [x]).getD (20 * ((n + 1) / 20) + 4 * j + k) 0) = 0 := by
        have e : ∀ k, (T ++ [x]).getD (20 * ((n + 1) / 20) + 4 * j + k) 0 = 0 := fun k => by
          rw [List.getD_eq_getElem?_getD, List.getElem?_eq_none (by rw [ln]; omega)]
          rfl
        unfold W4
        simp only [e]
      rw [this]
    · rw [ln]
      show 20 * (n / 20) + 20 = _
      omega
    · rw [ln] at hi
      show tx' i = _
      rcases Nat.lt_or_ge i (20 * (n / 20)) with y | y
      · rw [t1 i y, h6 i y, gd_app, if_neg (by omega)]
      · have := t2 (i - 20 * (n / 20)) (by omega)
        rw [show 20 * (n / 20) + (i - 20 * (n / 20)) = i by omega] at this
        exact this
/-- all that is left is handed over, and loaded -/
theorem loadText_s {Post : Int32 → ivS → Mu → Prop} (hW : WB S0 S m bu T) (hcB : 1 ≤ cB) (hP : ∀ S1 S' r' m', Fx (exR bu) m m' → (∃ tx n, S1 = (S0.1, S0.2.1, S0.2.2.1, tx, n, S0.2.2.2.2.2) ∧ T.length ≤ n ∧ n ≤ 700 ∧ ∀ i, i < T.length → tx i = T.getD i 0) → S' = (s_load S1 (nI T.length)).2.2.2 → r' = an1 (s_load S1 (nI T.length)) (-2000000098) → Post r' S' m') : wpL_loadText cB S m bu Post := by
  obtain ⟨⟨tx, nn, eS⟩, f, hm, h1, h2, h3, h4, h5, h6⟩ := hW
  generalize hn : T.length = n at *
  have b16 : ∀ (u : Nat) (S2 : ivS) (m2 : Mu) (f2 : Nat → Int32), u = 0 → Fx (exR bu) m m2 → mI m2 bu = some (8, f2) → (∃ tx n1, S2 = (S0.1, S0.2.1, S0.2.2.1, tx, n1, S0.2.2.2.2.2) ∧ n ≤ n1 ∧ n1 ≤ 700 ∧ ∀ i, i < n → tx i = T.getD i 0) → wpL_loadText_b16 cB Post S2 m2 u bu (nI n) := fun u S2 m2 f2 hu hf hm2 hS2 => by
    subst hu
    unfold wpL_loadText_b16
    refine ⟨8, f2, 0, hm2, rfl, by decide, by decide, fun mu3 e3 => ⟨by omega, fun S4 e4 r4 er => ⟨by omega, hP S2 S4 r4 mu3 (hf.trans (by rw [e3]; exact Fx.sI (Or.inl ⟨rfl, rfl⟩))) hS2 e4 er⟩⟩⟩
  unfold wpL_loadText
  refine ⟨8, f, 0, hm, rfl, by decide, by decide, fun z => ?_, fun z => ⟨0, Nat.zero_le _, ?_⟩⟩
  · rw [h3, im20 (by omega)] at z
    have z : n % 20 = 0 := by
      have := (nI_leI (by omega) (by decide)).mp (show nI (n % 20) ≤ nI 0 from z)
      omega
    rw [h3]
    refine b16 0 S m f rfl Fx.rf hm ⟨tx, nn, eS, ?_, ?_, fun i hi => ?_⟩
    · rw [eS] at h5
      have h5 : nn = 20 * (n / 20) := h5
      omega
    · rw [eS] at h5
      have h5 : nn = 20 * (n / 20) := h5
      omega
    · have := h6 i (by omega)
      rw [eS] at this
      exact this
  · rw [h3]
    refine flush_s (q := n / 20) (c := fun i => T.getD (20 * (n / 20) + i) 0) hm h5 (by omega) (fun j hj => ?_) (fun i _ => h2 _) (fun tx' f' t1 t2 t3 t4 => ?_)
    · rw [h4 j hj]
      congr 2
      funext k
      show _ = T.getD (20 * (n / 20) + (4 * j + k)) 0
      rw [Nat.add_assoc]
    · refine b16 _ _ _ f' (Nat.zero_add _) (Fx.sI (Or.inl ⟨rfl, rfl⟩)) up_s ⟨tx', _, by rw [eS], by omega, by omega, fun i hi => ?_⟩
      rcases Nat.lt_or_ge i (20 * (n / 20)) with y | y
      · rw [t1 i y, h6 i y]
      · have := t2 (i - 20 * (n / 20)) (by omega)
        rw [show 20 * (n / 20) + (i - 20 * (n / 20)) = i by omega] at this
        exact this
/-- a row of signs -/
theorem gd_map {T1 T2 : List Nat} {i : Nat} : (T1 ++ T2).getD i 0 = if i < T1.length then T1.getD i 0 else T2.getD (i - T1.length) 0 := by
  simp only [List.getD_eq_getElem?_getD]
  by_cases h : i < T1.length
  · rw [List.getElem?_append_left h, if_pos h]
  · rw [List.getElem?_append_right (by omega), if_neg h]
/-- the letters of a String constant -/
def stL (i : Nat) : List Nat := (strB.getD i []).map nz
theorem stL_len : ∀ i, i < 10 → (stL i).length = strL.getD i 0 := by decide
theorem stL_chr : ∀ i, i < 10 → ∀ k, k < strL.getD i 0 → chr i k = nI ((stL i).getD k 0) ∧ (stL i).getD k 0 < 128 := by decide +kernel
theorem write_K_L {Post : ivS → Mu → Prop} {i : Nat} (hi : i < 10) (hl : T.length + (stL i).length ≤ 680) (hP : ∀ S' m', Fx (exR bu) m m' → WB S0 S' m' bu (T ++ stL i) → Post S' m') : ∀ r k : Nat, k + r = (stL i).length → ∀ S' m', Fx (exR bu) m m' → WB S0 S' m' bu (T ++ (stL i).take k) → wpL_write_K_L2 cB i Post (r + 1) S' m' 0 bu (nI k)
  | r, k, hk, S', m', hf, hW => by
    have hls := stL_len i hi
    unfold wpL_write_K_L2
    rw [← hls]
    refine ⟨Nat.zero_le _, fun z => ⟨Nat.zero_le _, ?_⟩, fun z => ⟨Nat.zero_le _, ?_⟩⟩
    · have e : k = (stL i).length := by
        have := (nI_leI (by omega) (by omega)).mp z
        omega
      rw [e, List.take_length] at hW
      exact hP S' m' hf hW
    · have hkl : k < (stL i).length := by
        rcases Nat.lt_or_ge k (stL i).length with y | y
        · exact y
        · exact absurd (nI_le y (by omega)) z
      cases r with
      | zero => exact absurd hk (by omega)
      | succ r =>
        obtain ⟨g1, g2⟩ := stL_chr i hi k (by omega)
        refine ⟨k, rfl, hkl, 0, Nat.zero_le _, ?_⟩
        rw [g1]
        refine put_s hW g2 (by rw [List.length_append, List.length_take]; omega) (fun S2 m2 f2 W2 => ?_)
        rw [li1, nI_add]
        refine write_K_L hi hl hP r (k + 1) (by omega) S2 m2 (hf.trans f2) ?_
        have et : (stL i).take (k + 1) = (stL i).take k ++ [(stL i).getD k 0] := by
          rw [List.take_succ, List.getD_eq_getElem?_getD, List.getElem?_eq_getElem hkl]
          rfl
        rw [et, ← List.append_assoc]
        exact W2
theorem write_K_s {Post : ivS → Mu → Prop} {i : Nat} (hi : i < 10) (hW : WB S0 S m bu T) (hl : T.length + (stL i).length ≤ 680) (hP : ∀ S' m', Fx (exR bu) m m' → WB S0 S' m' bu (T ++ stL i) → Post S' m') : wpL_write_K cB S m bu i Post :=
  ⟨(stL i).length + 1, write_K_L hi hl hP _ 0 (Nat.zero_add _) S m Fx.rf (by rw [List.take_zero, List.append_nil]; exact hW)⟩
/-- a number below 100 -/
def dgs (n : Nat) : List Nat := if n < 10 then [48 + n] else [48 + n / 10, 48 + n % 10]
theorem dgs_len (n : Nat) : (dgs n).length ≤ 2 ∧ 1 ≤ (dgs n).length := by
  unfold dgs
  split
  · exact ⟨Nat.le_succ 1, Nat.le_refl 1⟩
  · exact ⟨Nat.le_refl 2, Nat.le_succ 1⟩
theorem im10 {n : Nat} (hn : n < 2 ^ 31) : nI n - nI n / (10 : Int32) * (10 : Int32) = nI (n % 10) := by
  rw [li10, nI_div hn (by decide), pk_mul, sm_sub (by omega), show n - n / 10 * 10 = n % 10 by omega]
theorem wn18_0 {Post : ivS → Mu → Prop} {r n : Nat} (hP : Post S m) : wpL_writeNumber_L18 cB Post (r + 1) S m 0 bu (nI n) (nI 0) := by
  unfold wpL_writeNumber_L18
  exact ⟨fun _ => ⟨Nat.zero_le _, hP⟩, fun z => absurd (show nI 0 ≤ nI 0 by decide) z⟩
theorem writeNumber_s {Post : ivS → Mu → Prop} {n : Nat} (hn : n < 100) (hW : WB S0 S m bu T) (hl : T.length + 2 ≤ 680) (hP : ∀ S' m', Fx (exR bu) m m' → WB S0 S' m' bu (T ++ dgs n) → Post S' m') : wpL_writeNumber cB S m bu (nI n) Post := by
  have l48 : (48 : Int32) = nI 48 := rfl
  have last : ∀ (r : Nat) (S1 : ivS) (m1 : Mu) (T1 : List Nat), Fx (exR bu) m m1 → WB S0 S1 m1 bu T1 → T1.length < 680 → T1 ++ [48 + n % 10] = T ++ dgs n → wpL_writeNumber_L18 cB Post (r + 2) S1 m1 0 bu (nI n) (nI 1) := fun r S1 m1 T1 f1 W1 h1 e1 => by
    unfold wpL_writeNumber_L18
    refine ⟨fun z => absurd (show nI 1 ≤ nI 0 from z) (by decide), fun _ => ⟨by decide, 0, Nat.zero_le _, ?_⟩⟩
    rw [nI_div (by omega) (by decide), Nat.div_one, im10 (by omega), l48, nI_add]
    refine put_s W1 (by omega) h1 (fun S2 m2 f2 W2 => ?_)
    rw [li10, nI_div (by decide) (by decide)]
    rw [e1] at W2
    exact wn18_0 (hP S2 m2 (f1.trans f2) W2)
  unfold wpL_writeNumber
  by_cases h10 : n < 10
  · refine ⟨1, ?_⟩
    unfold wpL_writeNumber_L2
    rw [li10, nI_div (by omega) (by decide)]
    refine ⟨fun _ => ⟨2, ?_⟩, fun z => absurd ?_ z⟩
    · refine last 0 S m T Fx.rf hW (by omega) ?_
      unfold dgs
      rw [if_pos h10, show n % 10 = n by omega]
    · rw [li1, nI_ltI (by omega) (by decide)]
      omega
  · refine ⟨2, ?_⟩
    unfold wpL_writeNumber_L2 wpL_writeNumber_L2
    rw [li10, nI_div (by omega) (by decide), li1, pk_mul]
    refine ⟨fun z => absurd ((nI_ltI (by omega) (by decide)).mp z) (by omega), fun _ => ⟨fun _ => ⟨3, ?_⟩, fun z => absurd ?_ z⟩⟩
    · unfold wpL_writeNumber_L18
      refine ⟨fun z => absurd (show nI (1 * 10) ≤ nI 0 from z) (by decide), fun _ => ⟨by decide, 0, Nat.zero_le _, ?_⟩⟩
      rw [nI_div (by omega) (by decide), im10 (by omega), l48, nI_add]
      refine put_s hW (by omega) (by omega) (fun S2 m2 f2 W2 => ?_)
      rw [li10, nI_div (by decide) (by decide)]
      refine last 0 S2 m2 _ f2 W2 (by rw [List.length_append]; show T.length + 1 < 680; omega) ?_
      unfold dgs
      rw [if_neg h10, List.append_assoc, show n / (1 * 10) % 10 = n / 10 by omega]
      rfl
    · rw [nI_ltI (by omega) (by decide)]
      omega
end BUF
