/-! THE CLASS'S ROWS UNDER CHANGES -/
section CRW
variable {d d' : Nat → Int32} {rows rows' : Nat → Int32} {p q k n : Nat}
theorem CPar_eq (hN : dN d p ≤ 30) (h : CPar d rows p) (he : ParEq d p d' q) (hr : ∀ k, k < 34 → rows' (q * 34 + k) = rows (p * 34 + k)) : CPar d' rows' q := by
  obtain ⟨h1, h2, h3, h4, h5⟩ := h
  refine ⟨by rw [he.n, ← h1]; exact hr 0 (by decide), by rw [he.hd, ← h2]; exact hr 1 (by decide), by rw [he.b, ← h3]; exact hr 2 (by decide), by rw [he.f, ← h4]; exact hr 3 (by decide), fun k hk => ?_⟩
  rw [he.n] at hk
  rw [he.v (by omega), ← h5 k hk]
  have := hr (4 + k) (by omega)
  rw [show q * 34 + (4 + k) = q * 34 + 4 + k by omega, show p * 34 + (4 + k) = p * 34 + 4 + k by omega] at this
  exact this
theorem fixTo_e {x : Int32} {Post : (Nat → Int32) → Prop} (hp : p < 16) : wpX0_fixTo rows (nI p) x Post = Post (upd rows (p * 34 + 3) x) := by
  unfold wpX0_fixTo
  simp (disch := omega) only [li0, li1, li2, li3, li4, li5, li6, li7, li8, li9, li10, li11, li12, li13, li16, li20, li24, li30, li32, li34, li40, li41, li48, li57, li59, li60, li97, li122, li255, li555, li700, li999, li100000, li100000000, li1000000000, nI_add, pk_mul, nI_leI, nI_ltI, nI_eq, nI_clamp, sm_sub, vp_in_T, bI_eq0, bI_eq1, true_and, and_true, true_implies, false_implies, not_true_eq_false, not_false_eq_true, Nat.add_zero, Nat.zero_add, Nat.zero_mul, Nat.mul_zero, put_e]
theorem setBegins_e {b : Bool} {Post : (Nat → Int32) → Prop} (hp : p < 16) : wpX0_setBeginsPage rows (nI p) (bI b) Post = Post (upd rows (p * 34 + 2) (bI b)) := by
  unfold wpX0_setBeginsPage wpX0_setBeginsPage_b19
  cases b <;> simp (disch := omega) only [li0, li1, li2, li3, li4, li5, li6, li7, li8, li9, li10, li11, li12, li13, li16, li20, li24, li30, li32, li34, li40, li41, li48, li57, li59, li60, li97, li122, li255, li555, li700, li999, li100000, li100000000, li1000000000, nI_add, pk_mul, nI_leI, nI_ltI, nI_eq, nI_clamp, sm_sub, vp_in_T, bI_eq0, bI_eq1, true_and, and_true, true_implies, false_implies, not_true_eq_false, not_false_eq_true, Nat.add_zero, Nat.zero_add, Nat.zero_mul, Nat.mul_zero, put_e, bI_f, bI_t, reduceCtorEq]
theorem setWord_e {x : Int32} {Post : (Nat → Int32) → Prop} (hp : p < 16) (hk : k < 30) : wpX0_setWord rows (nI p) (nI k) x Post = Post (upd rows (p * 34 + 4 + k) x) := by
  unfold wpX0_setWord
  simp (disch := omega) only [li0, li1, li2, li3, li4, li5, li6, li7, li8, li9, li10, li11, li12, li13, li16, li20, li24, li30, li32, li34, li40, li41, li48, li57, li59, li60, li97, li122, li255, li555, li700, li999, li100000, li100000000, li1000000000, nI_add, pk_mul, nI_leI, nI_ltI, nI_eq, nI_clamp, sm_sub, vp_in_T, bI_eq0, bI_eq1, true_and, and_true, true_implies, false_implies, not_true_eq_false, not_false_eq_true, Nat.add_zero, Nat.zero_add, Nat.zero_mul, Nat.mul_zero, put_e]
theorem addWord_e {x : Int32} {Post : (Nat → Int32) → Prop} (hp : p < 16) (hn : rows (p * 34) = nI n) (h30 : n < 30) : wpX0_addWord rows (nI p) x Post = Post (upd (upd rows (p * 34 + 4 + n) x) (p * 34) (nI (n + 1))) := by
  unfold wpX0_addWord wpX0_wordsOf
  simp (disch := omega) only [li0, li1, li2, li3, li4, li5, li6, li7, li8, li9, li10, li11, li12, li13, li16, li20, li24, li30, li32, li34, li40, li41, li48, li57, li59, li60, li97, li122, li255, li555, li700, li999, li100000, li100000000, li1000000000, nI_add, pk_mul, nI_leI, nI_ltI, nI_eq, nI_clamp, sm_sub, vp_in_T, bI_eq0, bI_eq1, true_and, and_true, true_implies, false_implies, not_true_eq_false, not_false_eq_true, Nat.add_zero, Nat.zero_add, Nat.zero_mul, Nat.mul_zero, get_e, hn, setWord_e, put_e]
theorem setCostOf_e {costs : Nat → Int32} {x : Int32} {Post : (Nat → Int32) → Prop} (hk : k < 6) : wpX0_setCostOf costs (nI k) x Post = Post (upd costs k x) := by
  unfold wpX0_setCostOf
  simp (disch := omega) only [put_e]
theorem takeOut_L {Post : (Nat → Int32) → Prop} {a2 : Int32} {rows0 : Nat → Int32} (hp : p < 16) (hm : n ≤ 29) (k0 : Nat)
    (h : ∀ r, r (p * 34) = nI n → (∀ j, j ≠ p * 34 → r j = if p * 34 + 4 + k0 ≤ j ∧ j < p * 34 + 4 + n then rows0 (j + 1) else rows0 j) → Post r) :
    ∀ (r k : Nat) (rows : Nat → Int32), k0 ≤ k → k + r = n → (∀ j, rows j = if p * 34 + 4 + k0 ≤ j ∧ j < p * 34 + 4 + k then rows0 (j + 1) else rows0 j) →
      wpX0_takeWordOut_L11 (nI p) a2 Post (r + 1) rows (nI n) (nI k)
  | 0, k, rows, h0, hk, hA => by
    unfold wpX0_takeWordOut_L11
    have a : nI n ≤ nI k := by rw [nI_leI (by omega) (by omega)]; omega
    refine ⟨fun _ => ?_, fun z => absurd a z⟩
    rw [li34, li0, pk_mul, nI_add, Nat.add_zero, put_e (by omega) (by decide)]
    refine h _ pk_us (fun j hj => ?_)
    rw [pk_un hj, hA j, show k = n by omega]
  | r + 1, k, rows, h0, hk, hA => by
    unfold wpX0_takeWordOut_L11
    have a : ¬ nI n ≤ nI k := by rw [nI_leI (by omega) (by omega)]; omega
    refine ⟨fun z => absurd z a, fun _ => ?_⟩
    unfold wpX0_wordAt
    rw [nI_1, li34, li4, pk_mul, nI_add, nI_add, get_e (by omega) (by decide)]
    dsimp only
    rw [setWord_e hp (by omega)]
    refine takeOut_L hp hm k0 h r (k + 1) _ (by omega) (by omega) (fun j => ?_)
    by_cases g : j = p * 34 + 4 + k
    · rw [g, pk_us, if_pos (by omega), hA, if_neg (by omega)]
      rfl
    · rw [pk_un g, hA j]
      by_cases g2 : p * 34 + 4 + k0 ≤ j ∧ j < p * 34 + 4 + k
      · rw [if_pos g2, if_pos (by omega)]
      · rw [if_neg g2, if_neg (by omega)]
theorem takeOut_s {Post : (Nat → Int32) → Prop} (hp : p < 16) (hn : rows (p * 34) = nI n) (h1 : 1 ≤ n) (h30 : n ≤ 30) (hk : k < n)
    (h : ∀ r, r (p * 34) = nI (n - 1) → (∀ j, j ≠ p * 34 → r j = if p * 34 + 4 + k ≤ j ∧ j < p * 34 + 4 + (n - 1) then rows (j + 1) else rows j) → Post r) : wpX0_takeWordOut rows (nI p) (nI k) Post := by
  unfold wpX0_takeWordOut wpX0_wordsOf
  rw [li34, li0, pk_mul, nI_add, Nat.add_zero, get_e (by omega) (by decide), hn, li1]
  dsimp only
  rw [sm_sub h1]
  exact ⟨_, takeOut_L hp (by omega) k h (n - 1 - k) k rows (Nat.le_refl _) (by omega) (fun j => by rw [if_neg (by omega)])⟩
theorem open_L {Post : Int32 → (Nat → Int32) → Prop} {hd pg : Bool} {rows0 : Nat → Int32} {P at_ : Nat} (hP : P < 16) (ha : at_ ≤ P)
    (h : ∀ r, (∀ j, j < at_ * 34 → r j = rows0 j) → r (at_ * 34) = nI 0 → r (at_ * 34 + 1) = bI hd → r (at_ * 34 + 2) = bI pg → r (at_ * 34 + 3) = -1 → (∀ j, at_ * 34 + 34 ≤ j → j < (P + 1) * 34 → r j = rows0 (j - 34)) → Post (nI (P + 1)) r) :
    ∀ (r m : Nat) (rows : Nat → Int32), m = at_ * 34 + r → m ≤ P * 34 → (∀ j, j < m + 34 → j < P * 34 → rows j = rows0 j) → (∀ j, m ≤ j → j < P * 34 → rows (j + 34) = rows0 j) →
      wpX0_openParagraph_L11 (nI at_) (bI hd) (bI pg) Post (r + 1) (nI P) rows (if m = 0 then -1 else nI (m - 1))
  | 0, m, rows, hm, hm2, hA, hB => by
    unfold wpX0_openParagraph_L11 wpX0_openParagraph_b90
    have a : (if m = 0 then (-1 : Int32) else nI (m - 1)) < nI at_ * 34 := by
      rw [li34, pk_mul]
      by_cases g : m = 0
      · rw [if_pos g]; exact of_eq_true (m1_lt (by omega))
      · rw [if_neg g, nI_ltI (by omega) (by omega)]; omega
    refine ⟨fun _ => ?_, fun z => absurd a z⟩
    have fin : ∀ rows1 : Nat → Int32, rows1 = upd (upd (upd (upd rows (at_ * 34) (nI 0)) (at_ * 34 + 1) (bI hd)) (at_ * 34 + 2) (bI pg)) (at_ * 34 + 3) (-1) → Post (nI (P + 1)) rows1 := fun rows1 e => by
      subst e
      refine h _ (fun j hj => ?_) ?_ ?_ ?_ pk_us (fun j h1 h2 => ?_)
      · rw [pk_un (by omega), pk_un (by omega), pk_un (by omega), pk_un (by omega)]
        exact hA j (by omega) (by omega)
      · rw [pk_un (by omega), pk_un (by omega), pk_un (by omega), pk_us]
      · rw [pk_un (by omega), pk_un (by omega), pk_us]
      · rw [pk_un (by omega), pk_us]
      · rw [pk_un (by omega), pk_un (by omega), pk_un (by omega), pk_un (by omega)]
        have := hB (j - 34) (by omega) (by omega)
        rw [show j - 34 + 34 = j by omega] at this
        exact this
    rw [li34, li0, pk_mul, nI_add, Nat.add_zero, put_e (by omega) (by decide), li1, nI_add, nI_add]
    have tail : ∀ x, wpX6_put 544 (upd rows (at_ * 34) (nI 0)) (nI (at_ * 34 + 1)) x (fun rows_2 => wpX0_setBeginsPage rows_2 (nI at_) (bI pg) (fun rows_3 => wpX0_fixTo rows_3 (nI at_) (-1 : Int32) (fun rows_4 => Post (nI (P + 1)) rows_4))) = Post (nI (P + 1)) (upd (upd (upd (upd rows (at_ * 34) (nI 0)) (at_ * 34 + 1) x) (at_ * 34 + 2) (bI pg)) (at_ * 34 + 3) (-1)) := fun x => by
      rw [put_e (by omega) (by decide), setBegins_e (by omega), fixTo_e (by omega)]
    cases hd
    · refine ⟨fun _ => ?_, fun z => absurd rfl z⟩
      exact (tail _).symm ▸ fin _ rfl
    · refine ⟨fun z => absurd z (by decide), fun _ => ?_⟩
      exact (tail _).symm ▸ fin _ rfl
  | r + 1, m, rows, hm, hm2, hA, hB => by
    unfold wpX0_openParagraph_L11
    rw [if_neg (by omega)]
    have a : ¬ nI (m - 1) < nI at_ * 34 := by rw [li34, pk_mul, nI_ltI (by omega) (by omega)]; omega
    refine ⟨fun z => absurd z a, fun _ => ?_⟩
    rw [get_e (by omega) (by decide), li34, nI_add, put_e (by omega) (by decide), hA (m - 1) (by omega) (by omega)]
    have ih := open_L hP ha h r (m - 1) (upd rows (m - 1 + 34) (rows0 (m - 1))) (by omega) (by omega) (fun j h1 h2 => by rw [pk_un (by omega)]; exact hA j (by omega) h2) (fun j h1 h2 => by
      by_cases g : j = m - 1
      · subst g; rw [pk_us]
      · rw [pk_un (by omega)]; exact hB j (by omega) h2)
    by_cases g : m - 1 = 0
    · rw [if_pos g] at ih
      rw [g, show nI 0 + (-1) = (-1 : Int32) by decide]
      rw [g] at ih
      exact ih
    · rw [if_neg g] at ih
      rw [nI_m1 (by omega)]
      exact ih
theorem open_s {Post : Int32 → (Nat → Int32) → Prop} {hd pg : Bool} {P at_ : Nat} (hP : P < 16) (ha : at_ ≤ P)
    (h : ∀ r, (∀ j, j < at_ * 34 → r j = rows j) → r (at_ * 34) = nI 0 → r (at_ * 34 + 1) = bI hd → r (at_ * 34 + 2) = bI pg → r (at_ * 34 + 3) = -1 → (∀ j, at_ * 34 + 34 ≤ j → j < (P + 1) * 34 → r j = rows (j - 34)) → Post (nI (P + 1)) r) : wpX0_openParagraph (nI P) rows (nI at_) (bI hd) (bI pg) Post := by
  unfold wpX0_openParagraph
  have := open_L (rows0 := rows) hP ha h (P * 34 - at_ * 34) (P * 34) rows (by omega) (Nat.le_refl _) (fun j _ _ => rfl) (fun j h1 h2 => by omega)
  by_cases g : P = 0
  · subst g
    rw [if_pos (by decide)] at this
    rw [show nI 0 * 34 - 1 = (-1 : Int32) by decide]
    exact ⟨_, this⟩
  · rw [if_neg (by omega)] at this
    rw [li34, li1, pk_mul, sm_sub (by omega)]
    exact ⟨_, this⟩
theorem close_L {Post : Int32 → (Nat → Int32) → Prop} {a1 : Int32} {rows0 : Nat → Int32} {P at_ : Nat} (hP : P < 16)
    (h : ∀ r, (∀ j, r j = if at_ * 34 ≤ j ∧ j < P * 34 then rows0 (j + 34) else rows0 j) → Post (nI P) r) :
    ∀ (r i : Nat) (rows : Nat → Int32), at_ * 34 ≤ i → i + r = P * 34 → (∀ j, rows j = if at_ * 34 ≤ j ∧ j < i then rows0 (j + 34) else rows0 j) →
      wpX0_closeParagraph_L15 a1 Post (r + 1) (nI P) rows (nI i)
  | 0, i, rows, h0, hi, hA => by
    unfold wpX0_closeParagraph_L15
    have a : nI P * 34 ≤ nI i := by rw [li34, pk_mul, nI_leI (by omega) (by omega)]; omega
    refine ⟨fun _ => h _ (fun j => by rw [hA j, show i = P * 34 by omega]), fun z => absurd a z⟩
  | r + 1, i, rows, h0, hi, hA => by
    unfold wpX0_closeParagraph_L15
    have a : ¬ nI P * 34 ≤ nI i := by rw [li34, pk_mul, nI_leI (by omega) (by omega)]; omega
    refine ⟨fun z => absurd z a, fun _ => ?_⟩
    rw [li34, nI_add, get_e (by omega) (by decide), put_e (by omega) (by decide), nI_1]
    refine close_L hP h r (i + 1) _ (by omega) (by omega) (fun j => ?_)
    by_cases g : j = i
    · subst g
      rw [pk_us, if_pos (by omega), hA, if_neg (by omega)]
    · rw [pk_un g, hA j]
      by_cases g2 : at_ * 34 ≤ j ∧ j < i
      · rw [if_pos g2, if_pos (by omega)]
      · rw [if_neg g2, if_neg (by omega)]
theorem close_s {Post : Int32 → (Nat → Int32) → Prop} {P at_ : Nat} (hP : P ≤ 16) (ha : at_ < P)
    (h : ∀ r, (∀ j, r j = if at_ * 34 ≤ j ∧ j < (P - 1) * 34 then rows (j + 34) else rows j) → Post (nI (P - 1)) r) : wpX0_closeParagraph (nI P) rows (nI at_) Post := by
  unfold wpX0_closeParagraph
  rw [li1, sm_sub (by omega), li34, pk_mul]
  exact ⟨_, close_L (by omega) h ((P - 1) * 34 - at_ * 34) (at_ * 34) rows (Nat.le_refl _) (by omega) (fun j => by rw [if_neg (by omega)])⟩
end CRW
