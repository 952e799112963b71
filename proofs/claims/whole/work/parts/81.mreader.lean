/-! THE REFERENCE'S READER: bytes, words, numbers -/
section MRB
variable {tx : Nat → Nat} {len at_ : Nat} {text : Nat → Int32}
theorem byteAt_e (hT : TX tx len text) {i : Nat} (hi : i < 2 ^ 31) {Post : Int32 → Prop} : wpX7_byteAt (nI len) text (nI i) Post = Post (bt tx len i) := by
  have h7 := hT.1
  unfold wpX7_byteAt bt
  rw [nI_leI (by omega) hi]
  by_cases g : i < len
  · rw [if_pos g, vp_in_T (by omega) (by decide), nI_clamp hi, (hT.2 i g).1]
    simp only [show ¬ len ≤ i by omega, false_implies, not_false_eq_true, true_implies, true_and]
  · rw [if_neg g]
    simp only [show len ≤ i by omega, true_implies, not_true_eq_false, false_implies, and_true]
theorem in_bt (hT : TX tx len text) {i lo hi : Nat} {Post : Int32 → Prop} (hl : lo < 2 ^ 31) (hh : hi < 2 ^ 31) : wpX7_in (bt tx len i) (nI lo) (nI hi) Post = Post (bI (decide (i < len) && (decide (lo ≤ tx i) && decide (tx i ≤ hi)))) := by
  unfold bt
  by_cases g : i < len
  · have := (hT.2 i g).2
    rw [if_pos g, in_e (by omega) hl hh, decide_eq_true g, Bool.true_and, Bool.decide_and]
  · rw [if_neg g, decide_eq_false g, Bool.false_and]
    unfold wpX7_in
    simp only [m1_lt hl, true_implies, not_true_eq_false, false_implies, and_true]
    rfl
theorem in_dg (hT : TX tx len text) {i : Nat} {Post : Int32 → Prop} : wpX7_in (bt tx len i) 48 57 Post = Post (bI (isDg tx len i)) := in_bt (lo := 48) (hi := 57) hT (by decide) (by decide)
theorem in_lt (hT : TX tx len text) {i : Nat} {Post : Int32 → Prop} : wpX7_in (bt tx len i) 97 122 Post = Post (bI (isLt tx len i)) := in_bt (lo := 97) (hi := 122) hT (by decide) (by decide)
theorem isDigM_e (hT : TX tx len text) {i : Nat} {Post : Int32 → Prop} (h : Post (bI (isDg tx len i))) : wpX7_isDigit (bt tx len i) Post := by
  unfold wpX7_isDigit
  rw [in_dg hT]
  exact ⟨bI_01 _, h⟩
theorem ahead_L {Post : Int32 → Int32 → Prop} (hT : TX tx len text) : ∀ (r i : Nat), i + r = len → Post (bt tx len (sk tx len i)) (nI (sk tx len i)) → wpX7_ahead_L0 (nI len) text Post (r + 1) (nI i)
  | 0, i, hi, h => by
    have h7 := hT.1
    unfold wpX7_ahead_L0
    rw [byteAt_e hT (by omega)]
    rw [show sk tx len i = i from run_end (by omega)] at h
    have e : bt tx len i = -1 := by unfold bt; exact if_neg (by omega)
    rw [e] at h ⊢
    refine ⟨fun _ => ?_, fun z => absurd z (by decide)⟩
    rw [byteAt_e hT (by omega), e]
    exact h
  | r + 1, i, hi, h => by
    have h7 := hT.1
    have hb := hT.2 i (by omega)
    unfold wpX7_ahead_L0
    have e : bt tx len i = nI (tx i) := by unfold bt; exact if_pos (by omega)
    rw [byteAt_e hT (by omega), e]
    refine ⟨fun z => ?_, fun z => ?_⟩
    · have n32 : tx i ≠ 32 := fun y => z (by rw [y]; rfl)
      rw [show sk tx len i = i from run_off (decide_eq_false n32)] at h
      rw [byteAt_e hT (by omega)]
      exact h
    · have e32 : tx i = 32 := (nI_eq (b := 32) (by omega) (by decide)).mp z
      rw [show sk tx len i = sk tx len (i + 1) from run_on (by omega) (decide_eq_true e32)] at h
      rw [nI_1]
      exact ahead_L hT r (i + 1) (by omega) h
theorem ahead_s {Post : Int32 → Int32 → Prop} (hT : TX tx len text) (ha : at_ ≤ len) (h : Post (bt tx len (sk tx len at_)) (nI (sk tx len at_))) : wpX7_ahead (nI len) (nI at_) text Post :=
  ⟨_, ahead_L hT (len - at_) at_ (by omega) h⟩
theorem good_0 {Post : Int32 → Prop} : wpX7_isGood 0 Post = Post 1 := by unfold wpX7_isGood; simp
theorem good_n {e : Int32} {Post : Int32 → Prop} (h : e ≠ 0) : wpX7_isGood e Post = Post 0 := by unfold wpX7_isGood; simp [h]
theorem report_0 {eo c o : Int32} {Post : Int32 → Int32 → Prop} : wpX7_report 0 eo c o Post = Post c o := by unfold wpX7_report; simp
theorem report_n {e eo c o : Int32} {Post : Int32 → Int32 → Prop} (h : e ≠ 0) : wpX7_report e eo c o Post = Post e eo := by unfold wpX7_report; simp [h]
theorem bt_chr (hT : TX tx len text) {i w k : Nat} (hw : w < 6) (hk : k < wl w) : bt tx len i = chr w k ↔ i < len ∧ tx i = wch w k := by
  have hc := wch_let hw hk
  rw [hc.2.2]
  unfold bt
  by_cases g : i < len
  · have := (hT.2 i g).2
    rw [if_pos g, nI_eq (by omega) (by omega)]
    exact ⟨fun h => ⟨g, h⟩, fun h => h.2⟩
  · rw [if_neg g]
    exact ⟨fun h => absurd h.symm (by rw [nI_ne_m1 (by omega)]; exact not_false), fun h => absurd h.1 g⟩
theorem takeWordM_L {Post : Int32 → Int32 → Prop} (hT : TX tx len text) {w i : Nat} (hw : w < 6) (hi : i ≤ len) (h1 : (mtF tx len w i (wl w) && !isLt tx len (i + wl w)) = true → Post 1 (nI (i + wl w))) (h0 : (mtF tx len w i (wl w) && !isLt tx len (i + wl w)) = false → Post 0 (nI i)) :
    ∀ (r k : Nat), k + r = wl w → mtF tx len w i k = true → wpX7_takeWord_L16 (nI len) 0 text w Post (r + 1) (nI i) (nI k)
  | 0, k, hk, hm => by
    have hl := wl_le hw
    have h7 := hT.1
    have e1 : nI (strL.getD w 0) = nI (wl w) := rfl
    unfold wpX7_takeWord_L16 wpX7_takeWord_b48
    rw [e1]
    have a : nI (wl w) ≤ nI k := nI_le (by omega) (by omega)
    have e : k = wl w := by omega
    subst e
    refine ⟨fun _ => ⟨fun z => absurd z (nI_nlt (Nat.le_refl _) (by omega)), fun _ => ?_⟩, fun z => absurd a z⟩
    rw [nI_add, byteAt_e hT (by omega), in_lt hT]
    rw [hm, Bool.true_and] at h1 h0
    cases hh : isLt tx len (i + wl w)
    · exact ⟨fun _ => h1 (by rw [hh]; rfl), fun z => absurd rfl z⟩
    · exact ⟨fun z => absurd z (by decide), fun _ => h0 (by rw [hh]; rfl)⟩
  | r + 1, k, hk, hm => by
    have hl := wl_le hw
    have h7 := hT.1
    have e1 : nI (strL.getD w 0) = nI (wl w) := rfl
    unfold wpX7_takeWord_L16 wpX7_takeWord_b48
    rw [e1]
    have a : ¬ nI (wl w) ≤ nI k := nI_ge (by omega) (by omega)
    refine ⟨fun z => absurd z a, fun _ => ?_⟩
    rw [nI_add, byteAt_e hT (by omega), nI_clamp (by omega), bt_chr hT hw (by omega)]
    refine ⟨vp_in_nI (show k < wl w by omega) (show wl w < 2 ^ 31 by omega), fun z => ⟨fun _ => h0 ?_, fun y => absurd (nI_lt (show k < wl w by omega) (by omega)) y⟩, fun z => ?_⟩
    · cases hh : mtF tx len w i (wl w)
      · rfl
      · exact absurd ((mtF_iff (wl w)).mp hh k (by omega)) z
    · rw [nI_1]
      refine takeWordM_L hT hw hi h1 h0 r (k + 1) (by omega) ?_
      unfold mtF
      rw [hm, decide_eq_true z.1, decide_eq_true z.2]
      rfl
theorem takeWordM_s {Post : Int32 → Int32 → Prop} (hT : TX tx len text) {w : Nat} (hw : w < 6) (ha : at_ ≤ len) (h : Post (bI (pWd tx len w at_).1) (nI (pWd tx len w at_).2)) : wpX7_takeWord (nI len) (nI at_) 0 text w Post := by
  unfold wpX7_takeWord
  rw [good_0]
  refine ⟨fun _ => ahead_s hT ha ⟨wl w + 1, ?_⟩, fun z => absurd z (by decide)⟩
  unfold pWd at h
  refine takeWordM_L hT hw (sk_le ha) (fun c => ?_) (fun c => ?_) (wl w) 0 (by omega) rfl
  · rw [if_pos c] at h; exact h
  · rw [if_neg (by rw [c]; decide)] at h; exact h
theorem numberM_L {Post : Int32 → Int32 → Int32 → Int32 → Int32 → Prop} (hT : TX tx len text) {lo hi i : Nat} {eo : Int32} (hhi : hi < 1000) (hlo : lo ≤ hi)
    (hS : lo ≤ tv tx i (dgE tx len i - i) → tv tx i (dgE tx len i - i) ≤ hi → Post (nI (tv tx i (dgE tx len i - i))) (nI (dgE tx len i)) 0 eo (nI i))
    (hF : ¬ (lo ≤ tv tx i (dgE tx len i - i) ∧ tv tx i (dgE tx len i - i) ≤ hi) → Post 0 (nI (dgE tx len i)) (-3) (nI i) (nI i)) :
    ∀ (r k : Nat), i + k + r = len → i + k ≤ dgE tx len i → wpX7_number_L41 (nI len) text (nI lo) (nI hi) Post (r + 1) (nI (i + k)) 0 eo (nI i) (nI (min 100000000 (tv tx i k)))
  | r, k, hr, hk => by
    have h7 := hT.1
    have hrf := run_facts (P := isDg tx len) (len := len) (len - i) i rfl
    have stop : isDg tx len (i + k) = false → wpX7_in (nI (min 100000000 (tv tx i k))) (nI lo) (nI hi) (fun r_6 => (¬ r_6 = 0 → wpX7_number_b109 (nI len) text (nI lo) (nI hi) Post (nI (i + k)) 0 eo (nI i) (nI (min 100000000 (tv tx i k)))) ∧ (r_6 = 0 → wpX7_report 0 eo (-3) (nI i) (fun er_8 erAt_8 => wpX7_number_b109 (nI len) text (nI lo) (nI hi) Post (nI (i + k)) er_8 erAt_8 (nI i) (nI (min 100000000 (tv tx i k)))))) := fun hs => by
      have hke : i + k = dgE tx len i := by
        rcases Nat.lt_or_ge (i + k) (dgE tx len i) with g | g
        · have := (hrf.2.2.1 (i + k) (by omega) g).1
          rw [hs] at this; cases this
        · omega
      have hk2 : k = dgE tx len i - i := by omega
      unfold wpX7_number_b109
      rw [← hk2, ← hke] at hS hF
      rw [in_e (by omega) (by omega) (by omega)]
      by_cases c : lo ≤ min 100000000 (tv tx i k) ∧ min 100000000 (tv tx i k) ≤ hi
      · rw [decide_eq_true c]
        refine ⟨fun _ => ?_, fun z => absurd z (by decide)⟩
        rw [good_0]
        refine ⟨fun z => absurd z (by decide), fun _ => ?_⟩
        rw [show min 100000000 (tv tx i k) = tv tx i k by omega]
        exact hS (by omega) (by omega)
      · rw [decide_eq_false c]
        refine ⟨fun z => absurd rfl z, fun _ => ?_⟩
        rw [report_0, good_n (by decide)]
        exact ⟨fun _ => hF (by omega), fun z => absurd rfl z⟩
    unfold wpX7_number_L41
    rw [byteAt_e hT (by omega)]
    refine isDigM_e hT ?_
    cases hh : isDg tx len (i + k)
    · exact ⟨fun _ => stop hh, fun z => absurd rfl z⟩
    · refine ⟨fun z => absurd z (by decide), fun _ => ?_⟩
      have hd := isDg_iff.mp hh
      have hb := hT.2 (i + k) (by omega)
      obtain ⟨m, rfl⟩ : ∃ m, r = m + 1 := ⟨r - 1, by omega⟩
      have e : bt tx len (i + k) = nI (tx (i + k)) := by unfold bt; exact if_pos hd.1
      rw [byteAt_e hT (by omega), e, li10, pk_mul, nI_add, li48, sm_sub (by omega), li100000000, min_e (by omega) (by omega), nI_1]
      rw [show 10 * min 100000000 (tv tx i k) + tx (i + k) - 48 = 10 * min 100000000 (tv tx i k) + (tx (i + k) - 48) by omega, tv_cap 100000000 (by decide), show i + k + 1 = i + (k + 1) by omega]
      refine numberM_L hT hhi hlo hS hF m (k + 1) (by omega) ?_
      rcases Nat.lt_or_ge (i + k) (dgE tx len i) with g | g
      · omega
      · exfalso
        have e1 : i + k = dgE tx len i := by omega
        have := hrf.2.2.2 (by show dgE tx len i < len; omega)
        rw [show run (isDg tx len) len i = dgE tx len i from rfl, ← e1, hh] at this
        cases this
theorem numberM_s {Post : Int32 → Int32 → Int32 → Int32 → Int32 → Prop} (hT : TX tx len text) {lo hi : Nat} {e eo ns : Int32} (hhi : hi < 1000) (hlo : lo ≤ hi) (ha : at_ ≤ len)
    (hE : e ≠ 0 → Post 0 (nI at_) e eo ns)
    (hF : e = 0 → ∀ c o, pNum tx len lo hi at_ = .inl (c, o) → ∀ a ns, a ≤ len → Post 0 (nI a) c (nI o) ns)
    (hS : e = 0 → ∀ a v, pNum tx len lo hi at_ = .inr (a, v) → Post (nI v) (nI a) 0 eo (nI (sk tx len at_))) : wpX7_number (nI len) (nI at_) e eo ns text (nI lo) (nI hi) Post := by
  have h2 := sk_le (tx := tx) ha
  unfold wpX7_number
  by_cases he : e = 0
  · subst he
    rw [good_0]
    refine ⟨fun _ => ahead_s hT ha (isDigM_e hT ?_), fun z => absurd z (by decide)⟩
    unfold pNum at hF hS
    cases hd : isDg tx len (sk tx len at_)
    · rw [hd, if_neg (by decide)] at hF
      refine ⟨fun z => absurd rfl z, fun _ => ?_⟩
      rw [report_0]
      exact hF rfl _ _ rfl _ _ h2
    · rw [hd, if_pos rfl] at hF hS
      refine ⟨fun _ => ⟨len - sk tx len at_ + 1, ?_⟩, fun z => absurd z (by decide)⟩
      have hdl := dgE_le (tx := tx) h2
      have hge := dgE_gt hd
      refine numberM_L (i := sk tx len at_) hT hhi hlo (fun h1 h2 => ?_) (fun hn => ?_) (len - sk tx len at_) 0 (by omega) (by omega)
      · exact hS rfl _ _ (if_pos ⟨h1, h2⟩)
      · exact hF rfl _ _ (if_neg hn) _ _ hdl
  · rw [good_n he]
    exact ⟨fun z => absurd rfl z, fun _ => hE he⟩
theorem expect_s {Post : Int32 → Int32 → Int32 → Prop} (hT : TX tx len text) {e eo : Int32} (ha : at_ ≤ len)
    (hE : e ≠ 0 → Post (nI at_) e eo)
    (hF : e = 0 → ∀ c o, pSemi tx len at_ = .inl (c, o) → ∀ a, a ≤ len → Post (nI a) c (nI o))
    (hS : e = 0 → ∀ a u, pSemi tx len at_ = .inr (a, u) → Post (nI a) 0 eo) : wpX7_expect (nI len) (nI at_) e eo text 59 Post := by
  have h2 := sk_le (tx := tx) ha
  unfold wpX7_expect
  by_cases he : e = 0
  · subst he
    rw [good_0]
    refine ⟨fun _ => ahead_s hT ha ⟨fun z => ?_, fun z => ?_⟩, fun z => absurd z (by decide)⟩
    · rw [report_0]
      exact hF rfl _ _ (by unfold pSemi; exact if_neg z) _ h2
    · rw [nI_1]
      exact hS rfl _ _ (by unfold pSemi; exact if_pos z)
  · rw [good_n he]
    exact ⟨fun z => absurd rfl z, fun _ => hE he⟩
/-- which statements were seen -/
def sn (hc hl : Bool) : Int32 := nI ((if hc then 1 else 0) + (if hl then 2 else 0))
theorem once_c {eo o : Int32} {hc hl : Bool} {Post : Int32 → Int32 → Int32 → Prop} (h1 : hc = true → Post (-2) o (sn true hl)) (h0 : hc = false → Post 0 eo (sn true hl)) : wpX7_once 0 eo (sn hc hl) 0 o Post := by
  unfold wpX7_once wpX7_once_b19
  cases hc
  · have := h0 rfl
    cases hl
    · exact ⟨fun _ => this, fun z => absurd z (by decide)⟩
    · exact ⟨fun _ => this, fun z => absurd z (by decide)⟩
  · have := h1 rfl
    rw [report_0]
    cases hl
    · exact ⟨fun z => absurd (by decide) z, fun _ => this⟩
    · exact ⟨fun z => absurd (by decide) z, fun _ => this⟩
theorem once_l {eo o : Int32} {hc hl : Bool} {Post : Int32 → Int32 → Int32 → Prop} (h1 : hl = true → Post (-2) o (sn hc true)) (h0 : hl = false → Post 0 eo (sn hc true)) : wpX7_once 0 eo (sn hc hl) 1 o Post := by
  unfold wpX7_once wpX7_once_b19
  cases hl
  · have := h0 rfl
    cases hc
    · exact ⟨fun _ => this, fun z => absurd z (by decide)⟩
    · exact ⟨fun _ => this, fun z => absurd z (by decide)⟩
  · have := h1 rfl
    rw [report_0]
    cases hc
    · exact ⟨fun z => absurd (by decide) z, fun _ => this⟩
    · exact ⟨fun z => absurd (by decide) z, fun _ => this⟩
end MRB
