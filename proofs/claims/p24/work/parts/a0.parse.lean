/-! WHAT IS WRITTEN IS READ -/
def AtL (tx : Nat → Nat) (len a : Nat) (L : List Nat) : Prop := a + L.length ≤ len ∧ ∀ i, i < L.length → tx (a + i) = L.getD i 0
section PAR
variable {tx : Nat → Nat} {len a : Nat} {L L1 L2 : List Nat} {c : Nat}
theorem AtL.hd (h : AtL tx len a (c :: L)) : a < len ∧ tx a = c := by
  have h2 := h.2 0 (Nat.succ_pos _)
  have h1 : a + (L.length + 1) ≤ len := h.1
  exact ⟨by omega, h2⟩
theorem AtL.tl (h : AtL tx len a (c :: L)) : AtL tx len (a + 1) L := by
  have h1 : a + (L.length + 1) ≤ len := h.1
  refine ⟨by omega, fun i hi => ?_⟩
  have := h.2 (i + 1) (Nat.succ_lt_succ hi)
  rw [show a + 1 + i = a + (i + 1) by omega, this]
  rfl
theorem AtL.l (h : AtL tx len a (L1 ++ L2)) : AtL tx len a L1 := by
  have h1 := h.1
  rw [List.length_append] at h1
  refine ⟨by omega, fun i hi => ?_⟩
  rw [h.2 i (by rw [List.length_append]; omega), gd_map, if_pos hi]
theorem AtL.r (h : AtL tx len a (L1 ++ L2)) : AtL tx len (a + L1.length) L2 := by
  have h1 := h.1
  rw [List.length_append] at h1
  refine ⟨by omega, fun i hi => ?_⟩
  have := h.2 (L1.length + i) (by rw [List.length_append]; omega)
  rw [show a + L1.length + i = a + (L1.length + i) by omega, this, gd_map, if_neg (by omega), Nat.add_sub_cancel_left]
theorem sk_sp (h : AtL tx len a (32 :: L)) : sk tx len a = sk tx len (a + 1) := run_on h.hd.1 (decide_eq_true h.hd.2)
theorem sk_no (h : tx a ≠ 32) : sk tx len a = a := run_off (decide_eq_false h)
theorem dg_no (h : tx a < 48 ∨ 57 < tx a) : isDg tx len a = false := by
  cases h2 : isDg tx len a with
  | false => rfl
  | true => have := isDg_iff.mp h2; omega
theorem dg_yes (h1 : a < len) (h2 : 48 ≤ tx a) (h3 : tx a ≤ 57) : isDg tx len a = true := isDg_iff.mpr ⟨h1, h2, h3⟩
/-- a number behind a space -/
theorem pNum_w {lo hi v : Nat} (h : AtL tx len a (32 :: (dgs v ++ c :: L))) (hv : v < 100) (hc : c < 48 ∨ 57 < c) (h1 : lo ≤ v) (h2 : v ≤ hi) : pNum tx len lo hi a = .inr (a + 1 + (dgs v).length, v) ∧ AtL tx len (a + 1 + (dgs v).length) (c :: L) ∧ sk tx len a = a + 1 ∧ isDg tx len (a + 1) = true := by
  have t := h.tl
  have tr := t.r
  by_cases h10 : v < 10
  · have ed : dgs v = [48 + v] := if_pos h10
    rw [ed] at t tr ⊢
    have e1 := t.hd
    have e2 : a + 1 + 1 < len ∧ tx (a + 1 + 1) = c := tr.hd
    have es : sk tx len a = a + 1 := by rw [sk_sp h, sk_no (by omega)]
    have ey : isDg tx len (a + 1) = true := dg_yes e1.1 (by omega) (by omega)
    have en : isDg tx len (a + 1 + 1) = false := dg_no (by rw [e2.2]; exact hc)
    have ee : dgE tx len (a + 1) = a + 1 + 1 := by
      unfold dgE
      rw [run_on e1.1 ey, run_off en]
    have et : tv tx (a + 1) 1 = v := by
      show 10 * 0 + (tx (a + 1 + 0) - 48) = v
      rw [Nat.add_zero, e1.2]
      omega
    refine ⟨?_, tr, es, ey⟩
    unfold pNum
    rw [es, if_pos ey, ee, show a + 1 + 1 - (a + 1) = 1 by omega, et, if_pos ⟨h1, h2⟩]
    rfl
  · have ed : dgs v = [48 + v / 10, 48 + v % 10] := if_neg h10
    rw [ed] at t tr ⊢
    have e1 := t.hd
    have e2 := t.tl.hd
    have e3 := tr.hd
    have e3a : a + 1 + [48 + v / 10, 48 + v % 10].length = a + 1 + 1 + 1 := rfl
    rw [e3a] at e3 tr ⊢
    have es : sk tx len a = a + 1 := by rw [sk_sp h, sk_no (by omega)]
    have ey : isDg tx len (a + 1) = true := dg_yes e1.1 (by omega) (by omega)
    have ey2 : isDg tx len (a + 1 + 1) = true := dg_yes e2.1 (by omega) (by omega)
    have en : isDg tx len (a + 1 + 1 + 1) = false := dg_no (by rw [e3.2]; exact hc)
    have ee : dgE tx len (a + 1) = a + 1 + 1 + 1 := by
      unfold dgE
      rw [run_on e1.1 ey, run_on e2.1 ey2, run_off en]
    have et : tv tx (a + 1) 2 = v := by
      show 10 * (10 * 0 + (tx (a + 1 + 0) - 48)) + (tx (a + 1 + 1) - 48) = v
      rw [Nat.add_zero, e1.2, e2.2]
      omega
    refine ⟨?_, tr, es, ey⟩
    unfold pNum
    rw [es, if_pos ey, ee, show a + 1 + 1 + 1 - (a + 1) = 2 by omega, et, if_pos ⟨h1, h2⟩]
theorem pSemi_w (h : AtL tx len a (59 :: L)) : pSemi tx len a = .inr (a + 1, ()) := by
  have e := h.hd
  have es : sk tx len a = a := sk_no (by omega)
  unfold pSemi bt
  rw [es, if_pos e.1, e.2, if_pos rfl]
theorem wch_stL : ∀ w, w < 6 → ∀ k, k < wl w → wch w k = (stL w).getD k 0 := by decide +kernel
theorem stL_fst : stL 0 = [98, 111, 111, 107] ∧ stL 1 = [99, 111, 115, 116, 115] ∧ stL 2 = [108, 105, 109, 105, 116] ∧ stL 3 = [112, 97, 114, 97] ∧ stL 4 = [112, 97, 103, 101] ∧ stL 5 = [104, 101, 97, 100, 105, 110, 103] ∧ stL 8 = [32, 112, 97, 103, 101] ∧ stL 9 = [] := by decide
/-- a word stands there -/
theorem pWd_y {w : Nat} (hw : w < 6) (h : AtL tx len (sk tx len a) (stL w ++ c :: L)) (hc : c < 97 ∨ 122 < c) : pWd tx len w a = (true, sk tx len a + (stL w).length) := by
  have hl : wl w = (stL w).length := (stL_len w (by omega)).symm
  have h1 : mtF tx len w (sk tx len a) (wl w) = true := (mtF_iff _).mpr (fun j hj => by
    have := h.l
    exact ⟨by have := this.1; omega, by rw [this.2 j (by omega), wch_stL w hw j hj]⟩)
  have h2 : isLt tx len (sk tx len a + wl w) = false := by
    cases h3 : isLt tx len (sk tx len a + wl w) with
    | false => rfl
    | true =>
      have h4 := isLt_iff.mp h3
      have h5 := h.r.hd
      rw [← hl] at h5
      omega
  unfold pWd
  rw [h1, h2, hl]
  rfl
/-- another word, or none -/
theorem pWd_n {w : Nat} (hw : w < 6) (h : tx (sk tx len a) ≠ (stL w).getD 0 0) : pWd tx len w a = (false, sk tx len a) := by
  have h4 := (wl_le hw).2
  have h1 : mtF tx len w (sk tx len a) (wl w) = false := by
    cases h3 : mtF tx len w (sk tx len a) (wl w) with
    | false => rfl
    | true =>
      have := ((mtF_iff _).mp h3 0 (by omega)).2
      rw [wch_stL w hw 0 (by omega)] at this
      exact absurd this h
  unfold pWd
  rw [h1]
  rfl
/-- numbers of costs -/
theorem pCs_w : ∀ (n : Nat) (ns : List Nat), ns.length = n → (∀ v, v ∈ ns → v < 100) → ∀ (cc : Nat) (R : List Nat), (cc < 48 ∨ 57 < cc) → AtL tx len a (nmT ns ++ cc :: R) → ∃ f, pCs tx len n a = .inr (a + (nmT ns).length, f) ∧ ∀ i, i < n → f i = ns.getD i 0
  | 0, ns, hn, _, cc, R, hc, h => by
    have : ns = [] := List.eq_nil_of_length_eq_zero hn
    subst this
    exact ⟨_, rfl, fun i hi => absurd hi (Nat.not_lt_zero _)⟩
  | n + 1, ns, hn, hv, cc, R, hc, h => by
    have hne : ns ≠ [] := fun z => by rw [z] at hn; cases hn
    obtain ⟨ini, lst, rfl⟩ : ∃ ini lst, ns = ini ++ [lst] := ⟨ns.dropLast, ns.getLast hne, (List.dropLast_concat_getLast hne).symm⟩
    have hi : ini.length = n := by rw [List.length_append] at hn; have : ini.length + 1 = n + 1 := hn; omega
    rw [nmT_app, List.append_assoc] at h
    obtain ⟨f, h1, h2⟩ := pCs_w n ini hi (fun v z => hv v (List.mem_append_left _ z)) 32 (dgs lst ++ cc :: R) (by omega) h
    have hr := h.r
    obtain ⟨g1, -⟩ := pNum_w (lo := 0) (hi := 999) hr (hv lst (List.mem_append_right _ List.mem_cons_self)) hc (Nat.zero_le _) (by have := hv lst (List.mem_append_right _ List.mem_cons_self); omega)
    refine ⟨upN f n lst, ?_, fun i hin => ?_⟩
    · unfold pCs
      rw [h1]
      dsimp only
      rw [g1]
      dsimp only
      rw [nmT_app, List.length_append]
      congr 2
      show _ = a + (_ + ((dgs lst).length + 1))
      omega
    · rw [gd_app, hi]
      by_cases y : i = n
      · rw [y, upN_s, if_pos rfl]
      · rw [upN_n y, if_neg y]
        exact h2 i (by omega)
/-- words of a paragraph -/
theorem pWs_w {M : Nat} : ∀ (ns : List Nat) (g k a : Nat) (f : Nat → Nat) (v : Nat) (R : List Nat), (∀ x, x ∈ v :: ns → 1 ≤ x ∧ x ≤ M ∧ x < 100) → ns.length + 1 ≤ g → k + ns.length < 30 → AtL tx len a (nmT (v :: ns) ++ 59 :: R) → ∃ f', pWs tx len M g k a f = .inr (a + (nmT (v :: ns)).length, k + (ns.length + 1), f') ∧ (∀ i, i < k → f' i = f i) ∧ ∀ i, i < ns.length + 1 → f' (k + i) = (v :: ns).getD i 0
  | [], g, k, a, f, v, R, hv, hg, hk, h => by
    obtain ⟨v1, v2, v3⟩ := hv v List.mem_cons_self
    have e0 : nmT [v] = 32 :: (dgs v ++ []) := rfl
    have h' : AtL tx len a (32 :: (dgs v ++ 59 :: R)) := by
      rw [e0, List.append_nil] at h
      exact h
    obtain ⟨g1, g2, -, -⟩ := pNum_w (lo := 1) (hi := M) h' v3 (by omega) v1 v2
    have es : sk tx len (a + 1 + (dgs v).length) = a + 1 + (dgs v).length := sk_no (by rw [g2.hd.2]; decide)
    have en : isDg tx len (a + 1 + (dgs v).length) = false := dg_no (by rw [g2.hd.2]; omega)
    cases g with
    | zero => exact absurd hg (by omega)
    | succ g =>
      refine ⟨upN f k v, ?_, fun i hi => upN_n (by omega), fun i hi => ?_⟩
      · unfold pWs
        rw [g1]
        dsimp only
        rw [if_neg (by have : k + 0 < 30 := hk; omega), es, en, if_neg (by decide)]
        rw [e0, List.append_nil]
        show Sum.inr (a + 1 + (dgs v).length, k + 1, upN f k v) = Sum.inr (a + ((dgs v).length + 1), k + (0 + 1), upN f k v)
        rw [show a + 1 + (dgs v).length = a + ((dgs v).length + 1) by omega]
      · have : i = 0 := by have : i < 0 + 1 := hi; omega
        subst this
        rw [Nat.add_zero, upN_s]
        rfl
  | w :: ns, g, k, a, f, v, R, hv, hg, hk, h => by
    obtain ⟨v1, v2, v3⟩ := hv v List.mem_cons_self
    have e0 : nmT (v :: w :: ns) = 32 :: (dgs v ++ nmT (w :: ns)) := rfl
    have e1 : nmT (w :: ns) = 32 :: (dgs w ++ nmT ns) := rfl
    have h' : AtL tx len a (32 :: (dgs v ++ 32 :: ((dgs w ++ nmT ns) ++ 59 :: R))) := by
      rw [e0, e1, List.cons_append, List.append_assoc] at h
      exact h
    obtain ⟨g1, g2, -, -⟩ := pNum_w (lo := 1) (hi := M) h' v3 (by omega) v1 v2
    have hk : k + (ns.length + 1) < 30 := hk
    have hg : ns.length + 1 + 1 ≤ g := hg
    obtain ⟨w1, w2, w3⟩ := hv w (List.mem_cons_of_mem _ List.mem_cons_self)
    have hnx : ∃ cc R', AtL tx len (a + 1 + (dgs v).length) (32 :: (dgs w ++ cc :: R')) ∧ (cc < 48 ∨ 57 < cc) := by
      rw [List.append_assoc] at g2
      cases ns with
      | nil => exact ⟨59, R, g2, by omega⟩
      | cons x ns => exact ⟨32, (dgs x ++ nmT ns) ++ 59 :: R, g2, by omega⟩
    obtain ⟨cc, R', k1, k2⟩ := hnx
    obtain ⟨-, -, k5, k6⟩ := pNum_w (lo := 1) (hi := M) k1 w3 k2 w1 w2
    cases g with
    | zero => exact absurd hg (by omega)
    | succ g =>
      obtain ⟨f', j1, j2, j3⟩ := pWs_w ns g (k + 1) (a + 1 + (dgs v).length) (upN f k v) w R (fun x hx => hv x (List.mem_cons_of_mem _ hx)) (by omega) (by omega) g2
      refine ⟨f', ?_, fun i hi => ?_, fun i hi => ?_⟩
      · unfold pWs
        rw [g1]
        dsimp only
        rw [if_neg (by omega), k5, if_pos k6, j1, e0]
        show Sum.inr (_, k + 1 + (ns.length + 1), f') = Sum.inr (a + ((dgs v ++ nmT (w :: ns)).length + 1), k + (ns.length + 1 + 1), f')
        rw [List.length_append, show k + 1 + (ns.length + 1) = k + (ns.length + 1 + 1) by omega, show a + 1 + (dgs v).length + (nmT (w :: ns)).length = a + ((dgs v).length + (nmT (w :: ns)).length + 1) by omega]
      · rw [j2 i (by omega), upN_n (by omega)]
      · cases i with
        | zero =>
          rw [Nat.add_zero, j2 k (by omega), upN_s]
          rfl
        | succ i =>
          have := j3 i (by have : i + 1 < ns.length + 1 + 1 := hi; omega)
          rw [show k + 1 + i = k + (i + 1) by omega] at this
          rw [this]
          rfl
end PAR
/-- the text so far is read as the book dd -/
def RD (T : List Nat) (hc hl : Bool) (dd : Nat → Int32) : Prop := ∀ tx len, AtL tx len 0 T → ∃ a0 d0 k, pHead tx len = .inr (a0, d0) ∧ k ≤ T.length ∧ ∀ f, pLoop tx len (k + f) a0 false false d0 = pLoop tx len f T.length hc hl dd
theorem RD_head {w h s : Nat} (hw : 10 ≤ w ∧ w ≤ 60) (hh : 2 ≤ h ∧ h ≤ 40) (hs : s ≤ 9) : RD (stmT (stL 0) [w, h, s]) false false (bkN w h s) := by
  intro tx len hA
  have e0 : stmT (stL 0) [w, h, s] = stL 0 ++ (32 :: (dgs w ++ (32 :: (dgs h ++ (32 :: (dgs s ++ (59 :: []))))))) := by
    show stL 0 ++ (32 :: (dgs w ++ (32 :: (dgs h ++ (32 :: (dgs s ++ []))))) ++ [59]) = _
    simp
  rw [e0] at hA
  have hk : sk tx len 0 = 0 := sk_no (by
    have := hA
    rw [stL_fst.1] at this
    rw [this.hd.2]
    decide)
  have p0 := pWd_y (tx := tx) (len := len) (a := 0) (w := 0) (by decide) (c := 32) (L := dgs w ++ (32 :: (dgs h ++ (32 :: (dgs s ++ (59 :: [])))))) (by rw [hk]; exact hA) (by omega)
  rw [hk] at p0
  have r0 := hA.r
  obtain ⟨n1, r1, -, -⟩ := pNum_w (lo := 10) (hi := 60) r0 (by omega) (by omega) hw.1 hw.2
  obtain ⟨n2, r2, -, -⟩ := pNum_w (lo := 2) (hi := 40) r1 (by omega) (by omega) hh.1 hh.2
  obtain ⟨n3, r3, -, -⟩ := pNum_w (lo := 0) (hi := 9) r2 (by omega) (by omega) (Nat.zero_le _) hs
  have n4 := pSemi_w r3
  refine ⟨(stmT (stL 0) [w, h, s]).length, bkN w h s, 0, ?_, Nat.zero_le _, fun f => ?_⟩
  rotate_left
  · rw [Nat.zero_add]
  · unfold pHead
    rw [p0]
    dsimp only
    rw [if_pos rfl, n1]
    dsimp only
    rw [n2]
    dsimp only
    rw [n3]
    dsimp only
    rw [n4]
    dsimp only
    rw [e0]
    congr 2
    simp only [List.length_append, List.length_cons, List.length_nil]
    omega
theorem RD_add {T St : List Nat} {hc hl hc' hl' : Bool} {dd dd' : Nat → Int32} {c0 : Nat} {S1 : List Nat} (hR : RD T hc hl dd) (hS : St = c0 :: S1) (h32 : c0 ≠ 32) (hst : ∀ tx len, AtL tx len T.length St → sk tx len T.length = T.length → pStm tx len T.length hc hl dd = .inr (T.length + St.length, hc', hl', dd')) : RD (T ++ St) hc' hl' dd' := by
  intro tx len hA
  obtain ⟨a0, d0, k, h1, h2, h3⟩ := hR tx len hA.l
  have hr := hA.r
  rw [Nat.zero_add] at hr
  have hr' := hr
  rw [hS] at hr'
  have hk : sk tx len T.length = T.length := sk_no (by rw [hr'.hd.2]; exact h32)
  refine ⟨a0, d0, k + 1, h1, by rw [List.length_append, hS]; show k + 1 ≤ T.length + (S1.length + 1); omega, fun f => ?_⟩
  rw [show k + 1 + f = k + (f + 1) by omega, h3 (f + 1), List.length_append]
  have e : ∀ x, pLoop tx len f (T.length + St.length) hc' hl' dd' = x → pLoop tx len (f + 1) T.length hc hl dd = x := fun x hx => by
    unfold pLoop
    rw [hk, if_neg (by have := hr'.hd.1; omega), hst tx len hr hk]
    exact hx
  exact e _ rfl
theorem RD_end {T : List Nat} {hc hl : Bool} {dd : Nat → Int32} {tx : Nat → Nat} (hR : RD T hc hl dd) (h : ∀ i, i < T.length → tx i = T.getD i 0) : pText tx T.length = .inr (T.length, dd) := by
  obtain ⟨a0, d0, k, h1, h2, h3⟩ := hR tx T.length ⟨by omega, fun i hi => by rw [Nat.zero_add]; exact h i hi⟩
  unfold pText
  rw [h1]
  dsimp only
  have := h3 (T.length - k + 1)
  rw [show k + (T.length - k + 1) = T.length + 1 by omega] at this
  rw [this]
  have es : sk tx T.length T.length = T.length := run_end (Nat.le_refl _)
  show (if T.length ≤ sk tx T.length T.length then _ else _) = _
  rw [es, if_pos (Nat.le_refl _)]
section STM
variable {T : List Nat} {hc hl : Bool} {dd : Nat → Int32}
theorem RD_limit {v : Nat} (hR : RD T hc false dd) (hv : v ≤ 9) : RD (T ++ stmT (stL 2) [v]) hc true (upd dd 3 (nI v)) := by
  have e0 : stmT (stL 2) [v] = stL 2 ++ (32 :: (dgs v ++ (59 :: []))) := by
    show stL 2 ++ (32 :: (dgs v ++ []) ++ [59]) = _
    simp
  obtain ⟨-, w1, w2, w3, -, w5, -⟩ := stL_fst
  refine RD_add (c0 := 108) hR (by rw [e0, w2]; rfl) (by decide) (fun tx len hA hk => ?_)
  rw [e0] at hA
  have hA' := hA
  rw [w2] at hA'
  have ht := hA'.hd.2
  have n1 := pWd_n (tx := tx) (len := len) (a := T.length) (w := 1) (by decide) (by rw [hk, ht, w1]; decide)
  have y2 := pWd_y (tx := tx) (len := len) (a := T.length) (w := 2) (by decide) (c := 32) (L := dgs v ++ (59 :: [])) (by rw [hk]; exact hA) (by omega)
  rw [hk] at y2
  obtain ⟨k1, r1, -, -⟩ := pNum_w (lo := 0) (hi := 9) hA.r (by omega) (by omega) (Nat.zero_le _) hv
  have k2 := pSemi_w r1
  unfold pStm pBody
  rw [n1]
  dsimp only
  rw [if_neg (by decide), y2]
  dsimp only
  rw [if_pos rfl, if_neg (by decide), k1]
  dsimp only
  rw [k2, e0]
  dsimp only
  congr 2
  simp only [List.length_append, List.length_cons, List.length_nil]
  omega
theorem RD_costs {ns : List Nat} (hR : RD T false hl dd) (hn : ns.length = 6) (hv : ∀ v, v ∈ ns → v < 100) : ∃ f, RD (T ++ stmT (stL 1) ns) true hl (costD dd f) ∧ ∀ i, i < 6 → f i = ns.getD i 0 := by
  obtain ⟨-, w1, w2, w3, -, w5, -⟩ := stL_fst
  have hne : ∃ v ns', ns = v :: ns' := by
    cases ns with
    | nil => cases hn
    | cons v ns' => exact ⟨v, ns', rfl⟩
  obtain ⟨v, ns', en⟩ := hne
  have key : ∀ tx len, AtL tx len T.length (stmT (stL 1) ns) → sk tx len T.length = T.length → ∃ f, pStm tx len T.length false hl dd = .inr (T.length + (stmT (stL 1) ns).length, true, hl, costD dd f) ∧ ∀ i, i < 6 → f i = ns.getD i 0 := fun tx len hA hk => by
    have hA0 : AtL tx len T.length (stL 1 ++ (nmT ns ++ (59 :: []))) := hA
    have hA2 : AtL tx len T.length (stL 1 ++ (32 :: ((dgs v ++ nmT ns') ++ (59 :: [])))) := by
      rw [en] at hA0
      exact hA0
    have y1 := pWd_y (tx := tx) (len := len) (a := T.length) (w := 1) (by decide) (c := 32) (L := (dgs v ++ nmT ns') ++ (59 :: [])) (by rw [hk]; exact hA2) (by omega)
    rw [hk] at y1
    obtain ⟨f, g1, g2⟩ := pCs_w 6 ns hn hv 59 [] (by omega) hA0.r
    have k2 := pSemi_w hA0.r.r
    refine ⟨f, ?_, g2⟩
    unfold pStm pBody
    rw [y1]
    dsimp only
    rw [if_pos rfl, if_neg (by decide), g1]
    dsimp only
    rw [k2]
    dsimp only
    congr 2
    show T.length + (stL 1).length + (nmT ns).length + 1 = T.length + (stL 1 ++ (nmT ns ++ [59])).length
    simp only [List.length_append, List.length_cons, List.length_nil]
    omega
  refine ⟨fun i => ns.getD i 0, ?_, fun i _ => rfl⟩
  refine RD_add (c0 := 99) hR (by show stL 1 ++ _ = _; rw [w1]; rfl) (by decide) (fun tx len hA hk => ?_)
  obtain ⟨f, g1, g2⟩ := key tx len hA hk
  rw [g1]
  have : costD dd f = costD dd (fun i => ns.getD i 0) := by
    funext j
    unfold costD
    by_cases y : 5 ≤ j ∧ j < 11
    · rw [if_pos y, if_pos y, g2 _ (by omega)]
    · rw [if_neg y, if_neg y]
  rw [this]
end STM
