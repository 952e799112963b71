/-! A PARAGRAPH THAT IS WRITTEN IS READ -/
def wdT (hd pg : Bool) : List Nat := (if hd then stL 5 else stL 3) ++ (if pg then stL 8 else stL 9)
theorem pNum_sk2 {tx : Nat → Nat} {len lo hi a b : Nat} (h : sk tx len a = sk tx len b) : pNum tx len lo hi a = pNum tx len lo hi b := by
  unfold pNum
  rw [h]
theorem pWs_sk2 {tx : Nat → Nat} {len M g k a b : Nat} {f : Nat → Nat} (h : sk tx len a = sk tx len b) : pWs tx len M (g + 1) k a f = pWs tx len M (g + 1) k b f := by
  unfold pWs
  rw [pNum_sk2 h, h]
theorem parD_congr {dd : Nat → Int32} {hd pg : Bool} {n : Nat} {f f' : Nat → Nat} (h : ∀ i, i < n → f i = f' i) : parD dd hd pg n f = parD dd hd pg n f' := by
  funext j
  unfold parD
  split
  · rfl
  · split
    · rfl
    · split
      · rfl
      · split
        · rfl
        · split
          · rfl
          · split
            · next z => rw [h _ (by omega)]
            · rfl
theorem pPar_w {tx : Nat → Nat} {len st a v : Nat} {hd pg : Bool} {dd : Nat → Int32} {ns : List Nat} (hP : dP dd ≠ 16) (hn : ns.length < 30) (hv : ∀ x, x ∈ v :: ns → 1 ≤ x ∧ x ≤ dW dd - dS dd ∧ x < 100) (h : AtL tx len a ((if pg then stL 8 else stL 9) ++ (nmT (v :: ns) ++ 59 :: []))) : ∃ f, pPar tx len st a hd dd = .inr (a + (if pg then stL 8 else stL 9).length + (nmT (v :: ns)).length, parD dd hd pg (ns.length + 1) f) ∧ ∀ i, i < ns.length + 1 → f i = (v :: ns).getD i 0 := by
  obtain ⟨-, -, -, -, w4, -, w8, w9⟩ := stL_fst
  have e0 : nmT (v :: ns) ++ 59 :: [] = 32 :: ((dgs v ++ nmT ns) ++ 59 :: []) := rfl
  cases pg with
  | true =>
    rw [if_pos rfl] at h
    have h8 : AtL tx len a (32 :: ([112, 97, 103, 101] ++ (nmT (v :: ns) ++ 59 :: []))) := by
      rw [w8] at h
      exact h
    have hs : sk tx len a = a + 1 := by
      rw [sk_sp h8, sk_no (by rw [h8.tl.hd.2]; decide)]
    have y := pWd_y (tx := tx) (len := len) (a := a) (w := 4) (by decide) (c := 32) (L := (dgs v ++ nmT ns) ++ 59 :: []) (by rw [hs, w4]; exact h8.tl) (by omega)
    rw [hs, w4] at y
    have hr := h.r
    rw [w8] at hr
    have ea : a + 1 + [112, 97, 103, 101].length = a + [32, 112, 97, 103, 101].length := rfl
    obtain ⟨f, g1, -, g3⟩ := pWs_w (M := dW dd - dS dd) ns 31 0 (a + [32, 112, 97, 103, 101].length) (fun _ => 0) v [] hv (by omega) (by omega) hr
    refine ⟨f, ?_, fun i hi => by have := g3 i hi; rw [Nat.zero_add] at this; exact this⟩
    unfold pPar
    rw [if_neg hP, y]
    dsimp only
    rw [ea, g1]
    dsimp only
    rw [if_pos rfl, w8, Nat.zero_add]
  | false =>
    rw [if_neg (by decide), w9] at h
    have h9 : AtL tx len a (32 :: ((dgs v ++ nmT ns) ++ 59 :: [])) := h
    obtain ⟨v1, v2, v3⟩ := hv v List.mem_cons_self
    have hd1 : 48 ≤ tx (a + 1) ∧ tx (a + 1) ≤ 57 := by
      have t := h9.tl
      by_cases h10 : v < 10
      · have ed : dgs v = [48 + v] := if_pos h10
        rw [ed] at t
        have := t.hd.2
        omega
      · have ed : dgs v = [48 + v / 10, 48 + v % 10] := if_neg h10
        rw [ed] at t
        have := t.hd.2
        omega
    have hs1 : sk tx len (a + 1) = a + 1 := sk_no (by omega)
    have hs : sk tx len a = a + 1 := by rw [sk_sp h9, hs1]
    have y := pWd_n (tx := tx) (len := len) (a := a) (w := 4) (by decide) (by rw [hs, w4]; show tx (a + 1) ≠ 112; omega)
    rw [hs] at y
    obtain ⟨f, g1, -, g3⟩ := pWs_w (M := dW dd - dS dd) ns 31 0 a (fun _ => 0) v [] hv (by omega) (by omega) h
    refine ⟨f, ?_, fun i hi => by have := g3 i hi; rw [Nat.zero_add] at this; exact this⟩
    unfold pPar
    rw [if_neg hP, y]
    dsimp only
    rw [pWs_sk2 (g := 30) (b := a) (by rw [hs1, hs]), g1]
    dsimp only
    rw [if_neg (by decide), w9, Nat.zero_add]
    rfl
theorem RD_para {T : List Nat} {hc hl hd pg : Bool} {dd : Nat → Int32} {v : Nat} {ns : List Nat} (hR : RD T hc hl dd) (hP : dP dd ≠ 16) (hn : ns.length < 30) (hv : ∀ x, x ∈ v :: ns → 1 ≤ x ∧ x ≤ dW dd - dS dd ∧ x < 100) : RD (T ++ stmT (wdT hd pg) (v :: ns)) hc hl (parD dd hd pg (ns.length + 1) (fun i => (v :: ns).getD i 0)) := by
  obtain ⟨-, w1, w2, w3, w4, w5, w8, w9⟩ := stL_fst
  have e0 : stmT (wdT hd pg) (v :: ns) = (if hd then stL 5 else stL 3) ++ ((if pg then stL 8 else stL 9) ++ (nmT (v :: ns) ++ 59 :: [])) := by
    unfold stmT wdT
    rw [List.append_assoc]
  have nx : ∃ R, (if pg then stL 8 else stL 9) ++ (nmT (v :: ns) ++ 59 :: []) = 32 :: R := by
    cases pg
    · exact ⟨(dgs v ++ nmT ns) ++ 59 :: [], by rw [if_neg (by decide), w9]; rfl⟩
    · exact ⟨[112, 97, 103, 101] ++ (nmT (v :: ns) ++ 59 :: []), by rw [if_pos rfl, w8]; rfl⟩
  obtain ⟨R, eR⟩ := nx
  have key : ∀ tx len, AtL tx len T.length (stmT (wdT hd pg) (v :: ns)) → sk tx len T.length = T.length → pStm tx len T.length hc hl dd = .inr (T.length + (stmT (wdT hd pg) (v :: ns)).length, hc, hl, parD dd hd pg (ns.length + 1) (fun i => (v :: ns).getD i 0)) := fun tx len hA hk => by
    rw [e0] at hA
    obtain ⟨f, g1, g2⟩ := pPar_w (st := T.length) (hd := hd) hP hn hv hA.r
    have k2 := pSemi_w (L := []) hA.r.r.r
    rw [parD_congr g2] at g1
    cases hd with
    | false =>
      rw [if_neg (by decide)] at hA g1 k2 e0
      have hA' := hA
      rw [w3] at hA'
      have ht : tx T.length = 112 := hA'.hd.2
      have n1 := pWd_n (tx := tx) (len := len) (a := T.length) (w := 1) (by decide) (by rw [hk, ht, w1]; decide)
      have n2 := pWd_n (tx := tx) (len := len) (a := T.length) (w := 2) (by decide) (by rw [hk, ht, w2]; decide)
      have y3 := pWd_y (tx := tx) (len := len) (a := T.length) (w := 3) (by decide) (c := 32) (L := R) (by rw [hk, ← eR]; exact hA) (by omega)
      rw [hk] at y3
      unfold pStm pBody
      rw [n1]
      dsimp only
      rw [if_neg (by decide), n2]
      dsimp only
      rw [if_neg (by decide), y3]
      dsimp only
      rw [if_pos rfl, g1]
      dsimp only
      rw [k2]
      dsimp only
      rw [e0]
      simp only [List.length_append, List.length_cons, List.length_nil, Nat.add_assoc]
    | true =>
      rw [if_pos rfl] at hA g1 k2 e0
      have hA' := hA
      rw [w5] at hA'
      have ht : tx T.length = 104 := hA'.hd.2
      have n1 := pWd_n (tx := tx) (len := len) (a := T.length) (w := 1) (by decide) (by rw [hk, ht, w1]; decide)
      have n2 := pWd_n (tx := tx) (len := len) (a := T.length) (w := 2) (by decide) (by rw [hk, ht, w2]; decide)
      have n3 := pWd_n (tx := tx) (len := len) (a := T.length) (w := 3) (by decide) (by rw [hk, ht, w3]; decide)
      have y5 := pWd_y (tx := tx) (len := len) (a := T.length) (w := 5) (by decide) (c := 32) (L := R) (by rw [hk, ← eR]; exact hA) (by omega)
      rw [hk] at y5
      unfold pStm pBody
      rw [n1]
      dsimp only
      rw [if_neg (by decide), n2]
      dsimp only
      rw [if_neg (by decide), n3]
      dsimp only
      rw [if_neg (by decide), y5]
      dsimp only
      rw [if_pos rfl, g1]
      dsimp only
      rw [k2]
      dsimp only
      rw [e0]
      simp only [List.length_append, List.length_cons, List.length_nil, Nat.add_assoc]
  cases hd with
  | false => exact RD_add (c0 := 112) hR (by rw [e0, if_neg (by decide), w3]; rfl) (by decide) key
  | true => exact RD_add (c0 := 104) hR (by rw [e0, if_pos rfl, w5]; rfl) (by decide) key
