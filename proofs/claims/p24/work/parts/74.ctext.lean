/-! THE CLASS'S READER: bytes, words, numbers -/
def TX (tx : Nat → Nat) (len : Nat) (text : Nat → Int32) : Prop := len ≤ 700 ∧ ∀ i, i < len → text i = nI (tx i) ∧ tx i < 256
section CTX
variable {tx : Nat → Nat} {len at_ : Nat} {text : Nat → Int32}
theorem fail_0 {c o : Int32} {eo : Int32} {Post : Int32 → Int32 → Prop} : wpX5_fail 0 eo c o Post = Post c o := by unfold wpX5_fail; simp
theorem fail_n {e c o : Int32} {eo : Int32} {Post : Int32 → Int32 → Prop} (h : e ≠ 0) : wpX5_fail e eo c o Post = Post e eo := by unfold wpX5_fail; simp [h]
theorem digit_e (hT : TX tx len text) {i : Nat} {Post : Int32 → Prop} : wpX5_isDigit (bt tx len i) Post = Post (bI (isDg tx len i)) := by
  unfold wpX5_isDigit bt isDg
  by_cases g : i < len
  · have := (hT.2 i g).2
    rw [if_pos g, li48, li57, nI_ltI (by omega) (by omega), nI_ltI (by omega) (by omega)]
    by_cases g1 : tx i < 48
    · simp only [g, g1, show ¬ 48 ≤ tx i by omega, true_implies, not_true_eq_false, false_implies, and_true, decide_true, decide_false, Bool.false_and, Bool.and_false, bI_f, li0]
    · by_cases g2 : 57 < tx i
      · simp only [g, g1, g2, show 48 ≤ tx i by omega, show ¬ tx i ≤ 57 by omega, true_implies, not_true_eq_false, not_false_eq_true, false_implies, and_true, true_and, decide_true, decide_false, Bool.false_and, Bool.and_false, bI_f, li0]
      · simp only [g, g1, g2, show 48 ≤ tx i by omega, show tx i ≤ 57 by omega, true_implies, not_true_eq_false, not_false_eq_true, false_implies, and_true, true_and, decide_true, Bool.and_true, bI_t, li1]
  · rw [if_neg g]
    simp only [g, show (-1 : Int32) < 48 by decide, true_implies, not_true_eq_false, false_implies, and_true, decide_false, Bool.false_and, bI_f, li0]
theorem digit_in (hT : TX tx len text) {i : Nat} (hi : i < len) {Post : Int32 → Prop} : wpX5_isDigit (nI (tx i)) Post = Post (bI (isDg tx len i)) := by
  have h := digit_e (i := i) (Post := Post) hT
  unfold bt at h
  rw [if_pos hi] at h
  exact h
theorem letter_in (hT : TX tx len text) {i : Nat} (hi : i < len) {Post : Int32 → Prop} : wpX5_isLetter (nI (tx i)) Post = Post (bI (isLt tx len i)) := by
  have := (hT.2 i hi).2
  unfold wpX5_isLetter isLt
  rw [li97, show (122 : Int32) = nI 122 from rfl, nI_ltI (by omega) (by omega), nI_ltI (by omega) (by omega)]
  by_cases g1 : tx i < 97
  · simp only [hi, g1, show ¬ 97 ≤ tx i by omega, true_implies, not_true_eq_false, false_implies, and_true, decide_true, decide_false, Bool.false_and, Bool.and_false, bI_f, li0]
  · by_cases g2 : 122 < tx i
    · simp only [hi, g1, g2, show 97 ≤ tx i by omega, show ¬ tx i ≤ 122 by omega, true_implies, not_true_eq_false, not_false_eq_true, false_implies, and_true, true_and, decide_true, decide_false, Bool.false_and, Bool.and_false, bI_f, li0]
    · simp only [hi, g1, g2, show 97 ≤ tx i by omega, show tx i ≤ 122 by omega, true_implies, not_true_eq_false, not_false_eq_true, false_implies, and_true, true_and, decide_true, Bool.and_true, bI_t, li1]
theorem nextByte_L {Post : Int32 → Int32 → Prop} (hT : TX tx len text) : ∀ (r i : Nat), i + r = len → Post (bt tx len (sk tx len i)) (nI (sk tx len i)) → wpX5_nextByte_L0 (nI len) 700 text Post (r + 1) (nI i)
  | 0, i, hi, h => by
    have h7 := hT.1
    unfold wpX5_nextByte_L0 wpX5_nextByte_b40
    have a : nI len ≤ nI i := nI_le (by omega) (by omega)
    rw [show sk tx len i = i from run_end (by omega)] at h
    unfold bt at h
    rw [if_neg (by omega)] at h
    exact ⟨fun _ => ⟨fun _ => h, fun z => absurd a z⟩, fun z => absurd a z⟩
  | r + 1, i, hi, h => by
    have h7 := hT.1
    have hb := hT.2 i (by omega)
    unfold wpX5_nextByte_L0 wpX5_nextByte_b40
    have a : ¬ nI len ≤ nI i := nI_ge (by omega) (by omega)
    refine ⟨fun z => absurd z a, fun _ => ?_⟩
    rw [get_e (by omega) (by decide), hb.1, nI_1]
    refine ⟨fun z => ⟨fun y => absurd y a, fun _ => ?_⟩, fun z => ?_⟩
    · have n32 : tx i ≠ 32 := fun e => z (by rw [e]; rfl)
      rw [show sk tx len i = i from run_off (decide_eq_false n32)] at h
      unfold bt at h
      rw [if_pos (by omega)] at h
      rw [get_e (by omega) (by decide), hb.1]
      exact h
    · have e32 : tx i = 32 := (nI_eq (b := 32) (by omega) (by decide)).mp z
      rw [show sk tx len i = sk tx len (i + 1) from run_on (by omega) (decide_eq_true e32)] at h
      exact nextByte_L hT r (i + 1) (by omega) h
theorem nextByte_s {Post : Int32 → Int32 → Prop} (hT : TX tx len text) (ha : at_ ≤ len) (h : Post (bt tx len (sk tx len at_)) (nI (sk tx len at_))) : wpX5_nextByte (nI len) (nI at_) 700 text Post :=
  ⟨_, nextByte_L hT (len - at_) at_ (by omega) h⟩
theorem takesWord_c {Post : Int32 → Int32 → Prop} (hT : TX tx len text) {w i e : Nat} (hw : w < 6) (he : i + wl w = e) (hel : e ≤ len) (h1 : mtF tx len w i (wl w) = true → Post 1 (nI e)) (h0 : mtF tx len w i (wl w) = false → Post 0 (nI i)) :
    ∀ (r k : Nat), k + r = wl w → mtF tx len w i k = true → wpX5_takesWord_L55 (nI len) 700 text w Post (r + 1) (nI i) (nI e) (nI k)
  | 0, k, hk, hm => by
    have hl := wl_le hw
    unfold wpX5_takesWord_L55
    have e1 : nI (strL.getD w 0) = nI (wl w) := rfl
    rw [e1]
    have a : nI (wl w) ≤ nI k := nI_le (by omega) (by omega)
    refine ⟨fun _ => h1 ?_, fun z => absurd a z⟩
    rw [← show k = wl w by omega]; exact hm
  | r + 1, k, hk, hm => by
    have hl := wl_le hw
    have h7 := hT.1
    have hb := hT.2 (i + k) (by omega)
    have hc := wch_let hw (show k < wl w by omega)
    unfold wpX5_takesWord_L55
    have e1 : nI (strL.getD w 0) = nI (wl w) := rfl
    rw [e1]
    have a : ¬ nI (wl w) ≤ nI k := nI_ge (by omega) (by omega)
    refine ⟨fun z => absurd z a, fun _ => ?_⟩
    rw [nI_add, get_e (by omega) (by decide), hb.1, nI_clamp (by omega), hc.2.2, nI_1, nI_eq (by omega) (by omega)]
    refine ⟨vp_in_nI (show k < wl w by omega) (show wl w < 2 ^ 31 by omega), fun z => ?_, fun z => h0 ?_⟩
    · refine takesWord_c hT hw he hel h1 h0 r (k + 1) (by omega) ?_
      unfold mtF
      rw [hm, decide_eq_true (show i + k < len by omega), decide_eq_true z]
      rfl
    · cases hh : mtF tx len w i (wl w)
      · rfl
      · exact absurd ((mtF_iff (wl w)).mp hh k (by omega)).2 z
theorem takesWord_e {Post : Int32 → Int32 → Prop} (hT : TX tx len text) {w i : Nat} (hw : w < 6) (h : Post (bI (mtF tx len w i (wl w) && !isLt tx len (i + wl w))) (nI (if mtF tx len w i (wl w) && !isLt tx len (i + wl w) then i + wl w else i))) :
    ∀ (r e : Nat), e + r = len → i ≤ e → (∀ j, i ≤ j → j < e → isLt tx len j = true) → wpX5_takesWord_L10 (nI len) 700 text w Post (r + 1) (nI i) (nI e)
  | r, e, hr, hie, hA => by
    have hl := wl_le hw
    have h7 := hT.1
    -- the run of letters ends at e
    have stop : isLt tx len e = false → wpX5_takesWord_b38 (nI len) 700 text w Post (nI i) (nI e) := fun hs => by
      unfold wpX5_takesWord_b38
      have e1 : nI (strL.getD w 0) = nI (wl w) := rfl
      rw [e1, sm_sub hie, nI_eq (by omega) (by omega)]
      refine ⟨fun z => ⟨wl w + 1, ?_⟩, fun z => ?_⟩
      · have hiw : i + wl w = e := by omega
        rw [hiw, hs] at h
        refine takesWord_c hT hw hiw (by omega) (fun hm => ?_) (fun hm => ?_) (wl w) 0 (by omega) rfl
        · rw [hm] at h; exact h
        · rw [hm] at h; exact h
      · have hf : (mtF tx len w i (wl w) && !isLt tx len (i + wl w)) = false := by
          cases hm : mtF tx len w i (wl w)
          · rfl
          · have hall := (mtF_iff (wl w)).mp hm
            have hge : i + wl w ≤ e := by
              rcases Nat.lt_or_ge e (i + wl w) with g | g
              · exfalso
                have h2 := hall (e - i) (by omega)
                have h3 := wch_let hw (show e - i < wl w by omega)
                rw [show i + (e - i) = e by omega] at h2
                rw [isLt_iff.mpr ⟨h2.1, by omega, by omega⟩] at hs
                cases hs
              · exact g
            rw [hA (i + wl w) (by omega) (by omega)]
            rfl
        rw [hf] at h
        exact h
    unfold wpX5_takesWord_L10
    rcases Nat.eq_zero_or_pos r with hr0 | hr0
    · have a : nI len ≤ nI e := nI_le (by omega) (by omega)
      refine ⟨fun _ => stop ?_, fun z => absurd a z⟩
      cases hh : isLt tx len e
      · rfl
      · have := isLt_iff.mp hh; omega
    · have a : ¬ nI len ≤ nI e := nI_ge (by omega) (by omega)
      have hb := hT.2 e (by omega)
      refine ⟨fun z => absurd z a, fun _ => ?_⟩
      rw [get_e (by omega) (by decide), hb.1, letter_in hT (by omega)]
      cases hh : isLt tx len e
      · exact ⟨fun _ => stop hh, fun z => absurd rfl z⟩
      · refine ⟨fun z => absurd z (by decide), fun _ => ?_⟩
        obtain ⟨m, rfl⟩ : ∃ m, r = m + 1 := ⟨r - 1, by omega⟩
        rw [nI_1]
        exact takesWord_e hT hw h m (e + 1) (by omega) (by omega) (fun j h1 h2 => by
          by_cases g : j = e
          · rw [g]; exact hh
          · exact hA j h1 (by omega))
theorem takesWord_s {Post : Int32 → Int32 → Prop} (hT : TX tx len text) {w : Nat} (hw : w < 6) (ha : at_ ≤ len) (h : Post (bI (pWd tx len w at_).1) (nI (pWd tx len w at_).2)) : wpX5_takesWord (nI len) (nI at_) 700 text w Post := by
  unfold wpX5_takesWord
  refine nextByte_s hT ha ⟨len - sk tx len at_ + 1, ?_⟩
  have h2 := sk_le (tx := tx) ha
  refine takesWord_e hT hw ?_ (len - sk tx len at_) (sk tx len at_) (by omega) (Nat.le_refl _) (fun j h1 h2 => by omega)
  unfold pWd at h
  by_cases c : (mtF tx len w (sk tx len at_) (wl w) && !isLt tx len (sk tx len at_ + wl w)) = true
  · rw [if_pos c] at h
    rw [c, if_pos rfl]; exact h
  · rw [if_neg c] at h
    have c' : (mtF tx len w (sk tx len at_) (wl w) && !isLt tx len (sk tx len at_ + wl w)) = false := by simpa using c
    rw [c', if_neg (by decide)]; exact h
theorem takeNum_L {Post : Int32 → Int32 → Int32 → Int32 → Prop} (hT : TX tx len text) {lo hi i : Nat} {e eo : Int32} (hhi : hi < 1000) (hlo : lo ≤ hi)
    (hS : lo ≤ tv tx i (dgE tx len i - i) → tv tx i (dgE tx len i - i) ≤ hi → Post (nI (tv tx i (dgE tx len i - i))) (nI (dgE tx len i)) e eo)
    (hF : ¬ (lo ≤ tv tx i (dgE tx len i - i) ∧ tv tx i (dgE tx len i - i) ≤ hi) → wpX5_fail e eo (-3) (nI i) (fun a b => Post (nI lo) (nI (dgE tx len i)) a b)) :
    ∀ (r k : Nat), i + k + r = len → i + k ≤ dgE tx len i → wpX5_takeNumber_L31 (nI len) 700 text (nI lo) (nI hi) Post (r + 1) (nI (i + k)) e eo (nI i) (nI (min 100000 (tv tx i k)))
  | r, k, hr, hk => by
    have h7 := hT.1
    have hrf := run_facts (P := isDg tx len) (len := len) (len - i) i rfl
    have stop : isDg tx len (i + k) = false → wpX5_takeNumber_b99 (nI len) 700 text (nI lo) (nI hi) Post (nI (i + k)) e eo (nI i) (nI (min 100000 (tv tx i k))) := fun hs => by
      have hke : i + k = dgE tx len i := by
        rcases Nat.lt_or_ge (i + k) (dgE tx len i) with g | g
        · have := (hrf.2.2.1 (i + k) (by omega) g).1
          rw [hs] at this; cases this
        · omega
      have hk2 : k = dgE tx len i - i := by omega
      unfold wpX5_takeNumber_b99 wpX5_takeNumber_b111
      rw [← hk2, ← hke] at hS hF
      rw [nI_ltI (by omega) (by omega), nI_leI (by omega) (by omega)]
      refine ⟨fun z => hF (by omega), fun z => ⟨fun y => ?_, fun y => hF (by omega)⟩⟩
      rw [show min 100000 (tv tx i k) = tv tx i k by omega]
      exact hS (by omega) (by omega)
    unfold wpX5_takeNumber_L31
    rcases Nat.eq_zero_or_pos r with hr0 | hr0
    · have a : nI len ≤ nI (i + k) := nI_le (by omega) (by omega)
      refine ⟨fun _ => stop ?_, fun z => absurd a z⟩
      cases hh : isDg tx len (i + k)
      · rfl
      · have := isDg_iff.mp hh; omega
    · have a : ¬ nI len ≤ nI (i + k) := nI_ge (by omega) (by omega)
      have hb := hT.2 (i + k) (by omega)
      refine ⟨fun z => absurd z a, fun _ => ?_⟩
      rw [get_e (by omega) (by decide), hb.1, digit_in hT (by omega)]
      cases hh : isDg tx len (i + k)
      · exact ⟨fun _ => stop hh, fun z => absurd rfl z⟩
      · refine ⟨fun z => absurd z (by decide), fun _ => ?_⟩
        have hd := isDg_iff.mp hh
        obtain ⟨m, rfl⟩ : ∃ m, r = m + 1 := ⟨r - 1, by omega⟩
        rw [get_e (by omega) (by decide), hb.1]
        rw [nI_1, li10, pk_mul, nI_add, li48, sm_sub (by omega), li100000]
        have ev : (if nI (10 * min 100000 (tv tx i k) + tx (i + k) - 48) < nI 100000 then nI (10 * min 100000 (tv tx i k) + tx (i + k) - 48) else nI 100000) = nI (min 100000 (tv tx i (k + 1))) := by
          rw [← tv_cap 100000 (by decide)]
          by_cases g : 10 * min 100000 (tv tx i k) + tx (i + k) - 48 < 100000
          · rw [if_pos (nI_lt g (by decide))]
            exact congrArg nI (by omega)
          · rw [if_neg (nI_nlt (by omega) (by omega))]
            exact congrArg nI (by omega)
        rw [ev, show i + k + 1 = i + (k + 1) by omega]
        refine takeNum_L hT hhi hlo hS hF m (k + 1) (by omega) ?_
        rcases Nat.lt_or_ge (i + k) (dgE tx len i) with g | g
        · omega
        · exfalso
          have e1 : i + k = dgE tx len i := by omega
          have := hrf.2.2.2 (by show dgE tx len i < len; omega)
          rw [show run (isDg tx len) len i = dgE tx len i from rfl, ← e1, hh] at this
          cases this
theorem takeNum_s {Post : Int32 → Int32 → Int32 → Int32 → Prop} (hT : TX tx len text) {lo hi : Nat} {e eo : Int32} (hhi : hi < 1000) (hlo : lo ≤ hi) (ha : at_ ≤ len)
    (hE : e ≠ 0 → ∀ v a, (v ≤ hi ∧ lo ≤ v) → a ≤ len → Post (nI v) (nI a) e eo)
    (hF : e = 0 → ∀ c o, pNum tx len lo hi at_ = .inl (c, o) → ∀ v a, (v ≤ hi ∧ lo ≤ v) → a ≤ len → Post (nI v) (nI a) c (nI o))
    (hS : e = 0 → ∀ a v, pNum tx len lo hi at_ = .inr (a, v) → Post (nI v) (nI a) e eo) : wpX5_takeNumber (nI len) (nI at_) e eo 700 text (nI lo) (nI hi) Post := by
  unfold wpX5_takeNumber
  have h2 := sk_le (tx := tx) ha
  refine nextByte_s hT ha ?_
  rw [digit_e hT]
  cases hd : isDg tx len (sk tx len at_)
  · refine ⟨fun z => absurd rfl z, fun _ => ?_⟩
    by_cases e0 : e = 0
    · have hp : pNum tx len lo hi at_ = .inl (-2, sk tx len at_) := by unfold pNum; rw [hd, if_neg (by decide)]
      subst e0
      rw [fail_0]
      exact hF rfl _ _ hp lo _ ⟨hlo, Nat.le_refl _⟩ h2
    · rw [fail_n e0]
      exact hE e0 lo _ ⟨hlo, Nat.le_refl _⟩ h2
  · refine ⟨fun _ => ⟨len - sk tx len at_ + 1, ?_⟩, fun z => absurd z (by decide)⟩
    have hdl := dgE_le (tx := tx) h2
    have hge := dgE_gt hd
    refine takeNum_L (i := sk tx len at_) hT hhi hlo (fun h1 h2 => ?_) (fun hn => ?_) (len - sk tx len at_) 0 (by omega) (by omega)
    · by_cases e0 : e = 0
      · exact hS e0 _ _ (by unfold pNum; rw [hd, if_pos rfl, if_pos ⟨h1, h2⟩])
      · exact hE e0 _ _ ⟨h2, h1⟩ hdl
    · by_cases e0 : e = 0
      · have hp : pNum tx len lo hi at_ = .inl (-3, sk tx len at_) := by unfold pNum; rw [hd, if_pos rfl, if_neg hn]
        subst e0
        rw [fail_0]
        exact hF rfl _ _ hp lo _ ⟨hlo, Nat.le_refl _⟩ hdl
      · rw [fail_n e0]
        exact hE e0 lo _ ⟨hlo, Nat.le_refl _⟩ hdl
theorem takeSemi_s {Post : Int32 → Int32 → Int32 → Prop} (hT : TX tx len text) {e eo : Int32} (ha : at_ ≤ len)
    (hE : e ≠ 0 → ∀ a, a ≤ len → Post (nI a) e eo)
    (hF : e = 0 → ∀ c o, pSemi tx len at_ = .inl (c, o) → ∀ a, a ≤ len → Post (nI a) c (nI o))
    (hS : e = 0 → ∀ a u, pSemi tx len at_ = .inr (a, u) → Post (nI a) e eo) : wpX5_takeSemicolon (nI len) (nI at_) e eo 700 text Post := by
  unfold wpX5_takeSemicolon
  have h2 := sk_le (tx := tx) ha
  have h7 := hT.1
  refine nextByte_s hT ha ?_
  have hi : bt tx len (sk tx len at_) = nI 59 → sk tx len at_ + 1 ≤ len := fun hb => by
    unfold bt at hb
    split at hb
    · omega
    · exact absurd hb (by decide)
  refine ⟨fun z => ?_, fun z => ?_⟩
  · have hp : pSemi tx len at_ = .inl (-2, sk tx len at_) := by unfold pSemi; exact if_neg z
    by_cases e0 : e = 0
    · subst e0
      rw [fail_0]
      exact hF rfl _ _ hp _ h2
    · rw [fail_n e0]
      exact hE e0 _ h2
  · have hp : pSemi tx len at_ = .inr (sk tx len at_ + 1, ()) := by unfold pSemi; exact if_pos z
    rw [nI_1]
    by_cases e0 : e = 0
    · exact hS e0 _ _ hp
    · exact hE e0 _ (hi z)
end CTX
