/-! THE CLASS'S READER: statements -/
section CRD
variable {tx : Nat → Nat} {len at_ : Nat} {text : Nat → Int32} {eo a1 a2 : Int32}
theorem rdCosts_E (hT : TX tx len text) {e : Int32} (he : e ≠ 0) {Post : Int32 → Int32 → Int32 → Int32 → (Nat → Int32) → Prop} (h : ∀ a cs, a ≤ len → Post (nI a) e eo 1 cs) :
    ∀ r k a cs, k + r = 6 → a ≤ len → wpX5_readCosts_L21 (nI len) 700 text a1 Post (r + 1) (nI a) e eo 1 cs (nI k)
  | 0, k, a, cs, hk, ha => by
    unfold wpX5_readCosts_L21
    have z : (6 : Int32) ≤ nI k := by rw [li6, nI_leI (by omega) (by omega)]; omega
    exact ⟨fun _ => h a cs ha, fun y => absurd z y⟩
  | r + 1, k, a, cs, hk, ha => by
    unfold wpX5_readCosts_L21
    have z : ¬ (6 : Int32) ≤ nI k := by rw [li6, nI_leI (by omega) (by omega)]; omega
    refine ⟨fun y => absurd y z, fun _ => ?_⟩
    refine takeNum_s (lo := 0) (hi := 999) hT (by decide) (by decide) ha (fun _ v b hv hb => ?_) (fun y => absurd y he) (fun y => absurd y he)
    rw [setCostOf_e (by omega), nI_1]
    exact rdCosts_E hT he h r (k + 1) b _ (by omega) hb
theorem rdCosts_0 (hT : TX tx len text) {a0 : Nat} {Post : Int32 → Int32 → Int32 → Int32 → (Nat → Int32) → Prop} (hF : ∀ c o, pCs tx len 6 a0 = .inl (c, o) → ∀ a cs, a ≤ len → Post (nI a) c (nI o) 1 cs) (hS : ∀ a f, pCs tx len 6 a0 = .inr (a, f) → ∀ cs, (∀ i, i < 6 → cs i = nI (f i)) → Post (nI a) 0 eo 1 cs) :
    ∀ r k a f cs, k + r = 6 → a ≤ len → pCs tx len k a0 = .inr (a, f) → (∀ i, i < k → cs i = nI (f i)) → wpX5_readCosts_L21 (nI len) 700 text a1 Post (r + 1) (nI a) 0 eo 1 cs (nI k)
  | 0, k, a, f, cs, hk, ha, hp, hcs => by
    unfold wpX5_readCosts_L21
    have z : (6 : Int32) ≤ nI k := by rw [li6, nI_leI (by omega) (by omega)]; omega
    have e : k = 6 := by omega
    subst e
    exact ⟨fun _ => hS a f hp cs hcs, fun y => absurd z y⟩
  | r + 1, k, a, f, cs, hk, ha, hp, hcs => by
    unfold wpX5_readCosts_L21
    have z : ¬ (6 : Int32) ≤ nI k := by rw [li6, nI_leI (by omega) (by omega)]; omega
    refine ⟨fun y => absurd y z, fun _ => ?_⟩
    refine takeNum_s (lo := 0) (hi := 999) hT (by decide) (by decide) ha (fun y => absurd rfl y) (fun _ c o hn v b hv hb => ?_) (fun _ b v hn => ?_)
    · rw [setCostOf_e (by omega), nI_1]
      have h1 : pCs tx len (k + 1) a0 = .inl (c, o) := by
        unfold pCs
        rw [hp]
        dsimp only
        rw [hn]
      have h2 := pCs_up h1 r
      rw [show k + 1 + r = 6 by omega] at h2
      exact rdCosts_E hT (bad_ne (pNum_b ha hn).1) (fun a cs ha => hF c o h2 a cs ha) r (k + 1) b _ (by omega) hb
    · rw [setCostOf_e (by omega), nI_1]
      have h1 : pCs tx len (k + 1) a0 = .inr (b, upN f k v) := by
        unfold pCs
        rw [hp]
        dsimp only
        rw [hn]
      refine rdCosts_0 hT hF hS r (k + 1) b (upN f k v) _ (by omega) (pNum_r ha hn).1 h1 (fun i hi => ?_)
      by_cases g : i = k
      · subst g; rw [pk_us, upN_s]
      · rw [pk_un g, upN_n g]; exact hcs i (by omega)
theorem readCosts_s (hT : TX tx len text) (ha : at_ ≤ len) {start : Nat} {hc : Bool} {cs : Nat → Int32} {Post : Int32 → Int32 → Int32 → Int32 → (Nat → Int32) → Prop}
    (h1 : hc = true → ∀ a cs, a ≤ len → Post (nI a) (-2) (nI start) 1 cs)
    (hF : hc = false → ∀ c o, pCs tx len 6 at_ = .inl (c, o) → ∀ a cs, a ≤ len → Post (nI a) c (nI o) 1 cs) (hS : hc = false → ∀ a f, pCs tx len 6 at_ = .inr (a, f) → ∀ cs, (∀ i, i < 6 → cs i = nI (f i)) → Post (nI a) 0 eo 1 cs) :
    wpX5_readCosts (nI len) (nI at_) 0 eo (bI hc) cs 700 text (nI start) Post := by
  unfold wpX5_readCosts wpX5_readCosts_b14
  cases hc
  · refine ⟨fun _ => ⟨7, ?_⟩, fun z => absurd rfl z⟩
    exact rdCosts_0 hT (hF rfl) (hS rfl) 6 0 at_ (fun _ => 0) cs rfl ha rfl (fun i hi => absurd hi (Nat.not_lt_zero _))
  · refine ⟨fun z => absurd z (by decide), fun _ => ?_⟩
    rw [fail_0]
    exact ⟨7, rdCosts_E hT (by decide) (h1 rfl) 6 0 at_ cs rfl ha⟩
theorem readLimit_s (hT : TX tx len text) (ha : at_ ≤ len) {start : Nat} {hl : Bool} {l : Int32} {Post : Int32 → Int32 → Int32 → Int32 → Int32 → Prop}
    (h1 : hl = true → ∀ a l, a ≤ len → Post (nI a) (-2) (nI start) 1 l)
    (hF : hl = false → ∀ c o, pNum tx len 0 9 at_ = .inl (c, o) → ∀ a l, a ≤ len → Post (nI a) c (nI o) 1 l) (hS : hl = false → ∀ a v, pNum tx len 0 9 at_ = .inr (a, v) → Post (nI a) 0 eo 1 (nI v)) :
    wpX5_readLimit (nI len) (nI at_) 0 eo (bI hl) l 700 text (nI start) Post := by
  unfold wpX5_readLimit wpX5_readLimit_b14
  cases hl
  · refine ⟨fun _ => ?_, fun z => absurd rfl z⟩
    exact takeNum_s (lo := 0) (hi := 9) hT (by decide) (by decide) ha (fun y => absurd rfl y) (fun _ c o hn v b hv hb => hF rfl c o hn b _ hb) (fun _ b v hn => hS rfl b v hn)
  · refine ⟨fun z => absurd z (by decide), fun _ => ?_⟩
    rw [fail_0]
    exact takeNum_s (lo := 0) (hi := 9) hT (by decide) (by decide) ha (fun _ v b hv hb => h1 rfl b _ hb) (fun y => absurd y (by decide)) (fun y => absurd y (by decide))
/-- k words stand in row p -/
def RW (r rows0 : Nat → Int32) (p k : Nat) (f : Nat → Nat) : Prop := r (p * 34) = nI k ∧ (∀ i, i < k → r (p * 34 + 4 + i) = nI (f i)) ∧ ∀ j, (j < p * 34 ∨ (p * 34 < j ∧ j < p * 34 + 4)) → r j = rows0 j
theorem RW_add {r rows0 : Nat → Int32} {p k v : Nat} {f : Nat → Nat} (h : RW r rows0 p k f) : RW (upd (upd r (p * 34 + 4 + k) (nI v)) (p * 34) (nI (k + 1))) rows0 p (k + 1) (upN f k v) := by
  obtain ⟨h1, h2, h3⟩ := h
  refine ⟨pk_us, fun i hi => ?_, fun j hj => ?_⟩
  · rw [pk_un (by omega)]
    by_cases g : i = k
    · subst g; rw [pk_us, upN_s]
    · rw [pk_un (by omega), upN_n g]; exact h2 i (by omega)
  · rw [pk_un (by omega), pk_un (by omega)]; exact h3 j hj
theorem pWs_sk {M g k a : Nat} {f : Nat → Nat} (ha : a ≤ len) : pWs tx len M g k (sk tx len a) f = pWs tx len M g k a f := by
  cases g with
  | zero => rfl
  | succ g =>
    unfold pWs
    rw [pNum_sk ha, sk_sk a ha]
section PAR
variable {dd : Nat → Int32} {Post : Int32 → Int32 → Int32 → Int32 → (Nat → Int32) → Prop} {P : Int32} {p : Nat} {rows0 : Nat → Int32}
theorem par_e {W S : Int32} {e : Int32} (he : e ≠ 0) {m : Nat} {a eo x3 x4 : Int32} {r : Nat → Int32} (h : Post a e eo P r) : wpX5_readParagraph_L46 (nI len) W S 700 text a1 a2 Post (m + 1) a e eo P r x3 x4 := by
  unfold wpX5_readParagraph_L46
  exact ⟨fun _ => h, fun _ => ⟨fun _ => h, fun z => absurd z he⟩⟩
theorem par_step (hT : TX tx len text) (hO : OkB dd) (hp : p < 16) {res : Rd (Nat × (Nat → Nat))} {g k a : Nat} {f : Nat → Nat} {r : Nat → Int32} (hk : k + (g + 1) = 31) (ha : a ≤ len) (hs : k = 0 ∨ sk tx len a = a) (hr : RW r rows0 p k f) (he : pWs tx len (dW dd - dS dd) (g + 1) k a f = res)
    (hF : ∀ c o, res = .inl (c, o) → ∀ a r, a ≤ len → Post (nI a) c (nI o) P r)
    (hS : ∀ a n f, res = .inr (a, n, f) → ∀ r, RW r rows0 p n f → Post (nI a) 0 eo P r)
    (hN : ∀ b f r, k < 30 → b ≤ len → sk tx len b = b → RW r rows0 p (k + 1) f → pWs tx len (dW dd - dS dd) g (k + 1) b f = res → wpX5_readParagraph_b75 (nI len) (nI (dW dd)) (nI (dS dd)) 700 text a1 a2 Post (wpX5_readParagraph_L46 (nI len) (nI (dW dd)) (nI (dS dd)) 700 text a1 a2 Post g) (nI b) 0 eo P r (nI p) (nI (k + 1))) :
    wpX5_readParagraph_b75 (nI len) (nI (dW dd)) (nI (dS dd)) 700 text a1 a2 Post (wpX5_readParagraph_L46 (nI len) (nI (dW dd)) (nI (dS dd)) 700 text a1 a2 Post (g + 1)) (nI a) 0 eo P r (nI p) (nI k) := by
  have h60 := hO.w60
  have h10 := hO.w10
  have h9 := hO.s9
  unfold wpX5_readParagraph_b75
  rw [longestWord_e hO]
  unfold pWs at he
  refine takeNum_s (lo := 1) (hi := dW dd - dS dd) hT (by omega) (by omega) ha (fun y => absurd rfl y) (fun _ c o hn v b hv hb => ?_) (fun _ b v hn => ?_)
  · rw [hn] at he
    dsimp only at he
    have hbad := bad_ne (pNum_b ha hn).1
    refine ⟨fun z => ?_, fun z => ?_⟩
    · have k30 : k < 30 := by
        rcases Nat.lt_or_ge k 30 with q | q
        · exact q
        · exact absurd (by rw [show k = 30 by omega]; rfl) z
      rw [addWord_e hp hr.1 k30]
      exact par_e hbad (hF c o he.symm b _ hb)
    · rw [fail_n hbad]
      exact par_e hbad (hF c o he.symm b _ hb)
  · rw [hn] at he
    dsimp only at he
    obtain ⟨hb, -, -, -⟩ := pNum_r ha hn
    refine ⟨fun z => ?_, fun z => ?_⟩
    · have k30 : k < 30 := by
        rcases Nat.lt_or_ge k 30 with q | q
        · exact q
        · exact absurd (by rw [show k = 30 by omega]; rfl) z
      rw [addWord_e hp hr.1 k30]
      rw [if_neg (by omega)] at he
      unfold wpX5_readParagraph_b123 wpX5_readParagraph_L46
      rw [nI_1]
      have z1 : ¬ (30 : Int32) < nI (k + 1) := by rw [li30, nI_ltI (by omega) (by omega)]; omega
      have z2 : ¬ nI (k + 1) = 0 := by rw [li0, nI_eq (by omega) (by omega)]; omega
      refine ⟨fun y => absurd y z1, fun _ => ⟨fun y => absurd rfl y, fun _ => ⟨fun y => absurd y z2, fun _ => ?_⟩⟩⟩
      refine nextByte_s hT hb ?_
      rw [digit_e hT]
      cases hd : isDg tx len (sk tx len b)
      · rw [hd, if_neg (by decide)] at he
        exact ⟨fun _ => hS _ _ _ he.symm _ (RW_add hr), fun y => absurd rfl y⟩
      · rw [hd, if_pos rfl] at he
        refine ⟨fun y => absurd y (by decide), fun _ => hN _ _ _ k30 (sk_le hb) (sk_sk b hb) (RW_add hr) ?_⟩
        rw [pWs_sk hb]
        exact he
    · have k30 : k = 30 := by
        rw [li30, nI_eq (by omega) (by omega)] at z
        exact z
      rw [if_pos k30, hs.resolve_left (by omega)] at he
      rw [fail_0]
      exact par_e (by decide) (hF _ _ he.symm b _ hb)
theorem par_L (hT : TX tx len text) (hO : OkB dd) (hp : p < 16) {res : Rd (Nat × (Nat → Nat))}
    (hF : ∀ c o, res = .inl (c, o) → ∀ a r, a ≤ len → Post (nI a) c (nI o) P r)
    (hS : ∀ a n f, res = .inr (a, n, f) → ∀ r, RW r rows0 p n f → Post (nI a) 0 eo P r) :
    ∀ g k a f r, k + (g + 1) = 31 → a ≤ len → (k = 0 ∨ sk tx len a = a) → RW r rows0 p k f → pWs tx len (dW dd - dS dd) (g + 1) k a f = res →
      wpX5_readParagraph_b75 (nI len) (nI (dW dd)) (nI (dS dd)) 700 text a1 a2 Post (wpX5_readParagraph_L46 (nI len) (nI (dW dd)) (nI (dS dd)) 700 text a1 a2 Post (g + 1)) (nI a) 0 eo P r (nI p) (nI k)
  | 0, k, a, f, r, hk, ha, hs, hr, he => par_step hT hO hp hk ha hs hr he hF hS (fun b f r k30 => by omega)
  | g + 1, k, a, f, r, hk, ha, hs, hr, he => par_step hT hO hp hk ha hs hr he hF hS (fun b f r k30 hb hb2 hr he => par_L hT hO hp hF hS g (k + 1) b f r (by omega) hb (Or.inr hb2) hr he)
end PAR
theorem readParagraph_s (hT : TX tx len text) (ha : at_ ≤ len) {start : Nat} {hd : Bool} {dd rows : Nat → Int32} (hO : OkB dd) (hR : CRows dd rows) {Post : Int32 → Int32 → Int32 → Int32 → (Nat → Int32) → Prop}
    (hF : ∀ c o, pPar tx len start at_ hd dd = .inl (c, o) → ∀ a P rows, a ≤ len → Post (nI a) c (nI o) P rows)
    (hS : ∀ a dd', pPar tx len start at_ hd dd = .inr (a, dd') → ∀ rows, CRows dd' rows → Post (nI a) 0 eo (nI (dP dd')) rows) :
    wpX5_readParagraph (nI len) (nI at_) 0 eo (nI (dW dd)) (nI (dS dd)) (nI (dP dd)) rows 700 text (nI start) (bI hd) Post := by
  have h16 := hO.p16
  have h60 := hO.w60
  unfold wpX5_readParagraph
  unfold pPar at hF hS
  refine ⟨fun z => ?_, fun z => ?_⟩
  · have hP : dP dd < 16 := by
      have : nI (dP dd) < nI 16 := z
      rw [nI_ltI (by omega) (by decide)] at this
      exact this
    rw [if_neg (by omega)] at hF hS
    refine takesWord_s hT (by decide) ha ?_
    have hw := pWd_2 (tx := tx) (w := 4) ha (by decide)
    refine open_s hP (Nat.le_refl _) (fun r r0 r1 r2 r3 r4 r5 => ⟨32, ?_⟩)
    unfold wpX5_readParagraph_L46
    refine ⟨fun y => absurd y (by decide), fun _ => ⟨fun y => absurd rfl y, fun _ => ⟨fun _ => ?_, fun y => absurd rfl y⟩⟩⟩
    refine par_L (rows0 := r) hT hO hP (fun c o hr => ?_) (fun a n f hr rr hrr => ?_) 30 0 (pWd tx len 4 at_).2 (fun _ => 0) r rfl hw.1 (Or.inl rfl) ⟨r1, fun i hi => absurd hi (Nat.not_lt_zero _), fun j hj => rfl⟩ rfl
    · intro a r ha
      rw [hr] at hF
      exact hF c o rfl a _ r ha
    · rw [hr] at hS
      have hq := (pWs_f (tx := tx) (M := dW dd - dS dd) 31 (k := 0) (f := fun _ => 0) hw.1 rfl).2 a n f hr
      obtain ⟨q1, q2, q3, q4, -, q6⟩ := hq
      obtain ⟨w1, w2, w3, w4, w5, w6, w7, w8, w9⟩ := parD_ok (hd := hd) (pg := (pWd tx len 4 at_).1) (f := f) hO hP (show 1 ≤ n by omega) q4 (fun i hi => by have := (q6 i (Nat.zero_le _) hi).2; omega)
      have hx := hS a _ rfl rr (fun q hq => ?_)
      · rw [w2] at hx
        exact hx
      · obtain ⟨t1, t2, t3⟩ := hrr
        rw [w2] at hq
        rcases Nat.lt_or_ge q (dP dd) with g | g
        · refine CPar_eq (hO.n30 g) (hR q g) (w4 q g) (fun k hk => ?_)
          rw [t3 _ (by omega), r0 _ (by omega)]
        · have e : q = dP dd := by omega
          subst e
          refine ⟨by rw [w8]; exact t1, by rw [w5, t3 _ (by omega), r2], by rw [w6, t3 _ (by omega), r3], by rw [w7, t3 _ (by omega), r4], fun k hk => ?_⟩
          rw [w8] at hk
          rw [w9 k hk]
          exact t2 k hk
  · have hP : dP dd = 16 := by
      have : ¬ nI (dP dd) < nI 16 := z
      rw [nI_ltI (by omega) (by decide)] at this
      omega
    rw [if_pos hP] at hF
    rw [fail_0]
    exact hF _ _ rfl at_ _ _ ha
end CRD
