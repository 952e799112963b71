/-! THE REFERENCE'S LOAD -/
section MLD
variable {tx : Nat → Nat} {len : Nat} {text : Nat → Int32}
/-- a new book of any three ints -/
def bkI (x y z : Int32) : Nat → Int32 := fun j => if j = 0 then x else if j = 1 then y else if j = 2 then z else if j = 3 then nI 1 else if j = 5 then nI 1 else if j = 6 then nI 1 else if j = 7 then nI 2 else if j = 8 then nI 20 else if j = 9 then nI 10 else if j = 10 then nI 30 else nI 0
theorem layBook_L {x y z : Int32} {Post : (Nat → Int32) → Prop} (h : ∀ D, E5 (bkI x y z) D → Post D) : ∀ (r i : Nat) (q : Nat → Int32), i + r = 555 → (∀ j, j < i → q j = nI 0) → wpX7_layBook_L3 555 x y z Post (r + 1) q (nI i)
  | 0, i, q, hi, hq => by
    unfold wpX7_layBook_L3
    have a : (555 : Int32) ≤ nI i := by rw [li555, nI_leI (by omega) (by omega)]; omega
    have v : ∀ m, m < 555 → vp_in (nI m) 555 := fun m hm => vp_in_nI hm (by decide)
    refine ⟨fun _ => ⟨v 0 (by decide), v 1 (by decide), v 2 (by decide), v 3 (by decide), v 5 (by decide), v 6 (by decide), v 7 (by decide), v 8 (by decide), v 9 (by decide), v 10 (by decide), h _ (fun j hj => ?_)⟩, fun z => absurd a z⟩
    show upd (upd (upd (upd (upd (upd (upd (upd (upd (upd q 0 x) 1 y) 2 z) 3 1) 5 1) 6 1) 7 2) 8 20) 9 10) 10 30 j = _
    unfold bkI
    by_cases g10 : j = 10
    · subst g10; rfl
    rw [pk_un g10]
    by_cases g9 : j = 9
    · subst g9; rfl
    rw [pk_un g9]
    by_cases g8 : j = 8
    · subst g8; rfl
    rw [pk_un g8]
    by_cases g7 : j = 7
    · subst g7; rfl
    rw [pk_un g7]
    by_cases g6 : j = 6
    · subst g6; rfl
    rw [pk_un g6]
    by_cases g5 : j = 5
    · subst g5; rfl
    rw [pk_un g5]
    by_cases g3 : j = 3
    · subst g3; rfl
    rw [pk_un g3]
    by_cases g2 : j = 2
    · subst g2; rfl
    rw [pk_un g2]
    by_cases g1 : j = 1
    · subst g1; rfl
    rw [pk_un g1]
    by_cases g0 : j = 0
    · subst g0; rfl
    rw [pk_un g0, if_neg g0, if_neg g1, if_neg g2, if_neg g3, if_neg g5, if_neg g6, if_neg g7, if_neg g8, if_neg g9, if_neg g10]
    exact hq j (by omega)
  | r + 1, i, q, hi, hq => by
    unfold wpX7_layBook_L3
    have a : ¬ (555 : Int32) ≤ nI i := by rw [li555, nI_leI (by omega) (by omega)]; omega
    refine ⟨fun z => absurd z a, fun _ => ⟨vp_in_nI (by omega) (by decide), ?_⟩⟩
    rw [nI_clamp (by omega), nI_1]
    refine layBook_L h r (i + 1) _ (by omega) (fun j hj => ?_)
    by_cases g : j = i
    · subst g; rw [pk_us]; rfl
    · rw [pk_un g]; exact hq j (by omega)
theorem layBook_s {x y z : Int32} {q : Nat → Int32} {Post : (Nat → Int32) → Prop} (h : ∀ D, E5 (bkI x y z) D → Post D) : wpX7_layBook 555 q x y z Post :=
  ⟨_, layBook_L h 555 0 q rfl (fun j hj => absurd hj (Nat.not_lt_zero _))⟩
variable {d D0 : Nat → Int32} {hist : Nat → Nat → Int32} {n : Nat} {a1 th tl pos er erAt eo0 ns seen : Int32}
/-- the text has an error -/
theorem mload_E {Post : Int32 → Int32 → Int32 → Int32 → Int32 → Int32 → Int32 → Int32 → Int32 → Int32 → Int32 → (Nat → Int32) → (Nat → Int32) → (Nat → Nat → Int32) → Prop} {c e0 th bl tl pos o ud ns s : Int32} {D : Nat → Int32} (hc : c ≠ 0) (h : Post c th bl tl pos c o o ud ns s d D hist) {m : Nat} : wpX7_load_L124 text a1 Post (m + 1) th bl tl pos c o e0 ud ns s d D hist := by
  unfold wpX7_load_L124 wpX7_load_b146
  rw [good_n hc, good_n hc]
  exact ⟨fun _ => ⟨fun z => absurd rfl z, fun _ => h⟩, fun z => absurd rfl z⟩
theorem mload_L (hT : TX tx len text) (hn : n ≤ 8) {Post : Int32 → Int32 → Int32 → Int32 → Int32 → Int32 → Int32 → Int32 → Int32 → Int32 → Int32 → (Nat → Int32) → (Nat → Int32) → (Nat → Nat → Int32) → Prop} {e0 : Int32} {res : Rd (Nat → Int32)}
    (hF : ∀ c o, res = .inl (c, o) → c ≠ 0 ∧ ∀ pos ns s D, Post c 0 0 (nI len) pos c (nI o) (nI o) (nI n) ns s d D hist)
    (hS : ∀ b dd, res = .inr (b, dd) → ∀ pos ns s D d' hist', E5 dd d' → (∀ i, i < pushN n → E5 (pushH hist n d i) (hist' i)) → Post (nI (dP dd)) 0 0 (nI len) pos 0 (-1) (-1) (nI (pushN n)) ns s d' D hist') :
    ∀ f a hc hl dd ns D, len < f + a → a ≤ len → OkB dd → E5 dd D → pLoop tx len f a hc hl dd = res →
      wpX7_load_L124 text (nI len) Post (f + 1) 0 0 (nI len) (nI a) 0 (-1) e0 (nI n) ns (sn hc hl) d D hist
  | 0, a, hc, hl, dd, ns, D, hf, ha, hO, hD, he => by omega
  | f + 1, a, hc, hl, dd, ns, D, hf, ha, hO, hD, he => by
    have h7 := hT.1
    have hs := sk_le (tx := tx) ha
    have hg := sk_ge (tx := tx) (len := len) a
    unfold pLoop at he
    unfold wpX7_load_L124
    rw [good_0]
    refine ⟨fun z => absurd z (by decide), fun _ => ahead_s hT ha ?_⟩
    by_cases k : len ≤ sk tx len a
    · rw [if_pos k] at he
      have e : bt tx len (sk tx len a) = -1 := by unfold bt; exact if_neg (by omega)
      rw [e]
      refine ⟨fun _ => ?_, fun y => absurd rfl y⟩
      unfold wpX7_load_b146
      rw [good_0]
      refine ⟨fun _ => ?_, fun y => absurd y (by decide)⟩
      refine remember_s hn (fun hist' hh => copyM_s (fun q hq => ⟨vp_in_nI (n := 4) (by decide) (by decide), ?_⟩))
      have e4 : q (4 : Int32).toNatClampNeg = nI (dP dd) := by
        rw [show (4 : Int32).toNatClampNeg = 4 from rfl, hq 4, if_pos (by decide), hD 4 (by decide)]
        exact hO.p
      rw [e4]
      exact hS _ _ he.symm _ _ _ _ q hist' (fun j hj => by rw [hq j, if_pos hj]; exact hD j hj) hh
    · rw [if_neg k] at he
      have hb := (hT.2 (sk tx len a) (by omega)).2
      have e : bt tx len (sk tx len a) = nI (tx (sk tx len a)) := by unfold bt; exact if_pos (by omega)
      rw [e]
      refine ⟨fun y => absurd y (by rw [nI_ne_m1 (by omega)]; exact not_false), fun _ => ?_⟩
      refine statement_s hT hs (sk_sk a ha) hO hD (fun c o hp b ns s D hb => ?_) (fun b hc' hl' dd' hp ns D hD' => ?_)
      · rw [hp] at he
        obtain ⟨hbad, hx⟩ := hF c o he.symm
        exact mload_E hbad (hx _ _ _ _)
      · rw [hp] at he
        obtain ⟨q1, q2, q3⟩ := (pStm_f (tx := tx) hO (hc := hc) (hl := hl) hs).2 _ _ _ _ hp
        exact mload_L hT hn hF hS f b hc' hl' dd' ns D (by omega) q1 q3.1 hD' he
/-- an error ahead of the statements -/
theorem mhead_E (hT : TX tx len text) {Post : Int32 → Int32 → Int32 → Int32 → Int32 → Int32 → Int32 → Int32 → Int32 → Int32 → Int32 → (Nat → Int32) → (Nat → Int32) → (Nat → Nat → Int32) → Prop} {c e0 th bl o ud ns s x y z : Int32} {D : Nat → Int32} (hc : c ≠ 0) {a : Nat} (ha : a ≤ len) (h : ∀ pos ns s D, Post c th bl (nI len) pos c o o ud ns s d D hist) :
    wpX7_layBook 555 D x y z (fun D7 => wpX7_expect (nI len) (nI a) c o text 59 (fun position_8 er_8 erAt_8 => ∃ m_, wpX7_load_L124 text a1 Post m_ th bl (nI len) position_8 er_8 erAt_8 e0 ud ns s d D7 hist)) :=
  layBook_s (fun D' _ => expect_s hT ha (fun _ => ⟨1, mload_E hc (h _ _ _ _)⟩) (fun y => absurd y hc) (fun y => absurd y hc))
theorem loadM_s {Post : Int32 → Int32 → Int32 → Int32 → Int32 → Int32 → Int32 → Int32 → Int32 → Int32 → Int32 → (Nat → Int32) → (Nat → Int32) → (Nat → Nat → Int32) → Prop} (hT : TX tx len text) (hn : n ≤ 8)
    (hX : ¬ inR a1 (len + 1) → Post 0 1 (nI len) tl pos er erAt eo0 (nI n) ns seen d D0 hist)
    (hF : ∀ m, m ≤ len → a1 = nI m → ∀ c o, pText tx m = .inl (c, o) → ∀ pos ns s D, Post c 0 0 (nI m) pos c (nI o) (nI o) (nI n) ns s d D hist)
    (hS : ∀ m, m ≤ len → a1 = nI m → ∀ b dd, pText tx m = .inr (b, dd) → ∀ pos ns s D d' hist', E5 dd d' → (∀ i, i < pushN n → E5 (pushH hist n d i) (hist' i)) → Post (nI (dP dd)) 0 0 (nI m) pos 0 (-1) (-1) (nI (pushN n)) ns s d' D hist') :
    wpX7_load th (nI len) tl pos er erAt eo0 (nI n) ns seen text d D0 hist a1 Post := by
  have h7 := hT.1
  unfold wpX7_load
  rcases inR_cases a1 (len + 1) (by omega) with ⟨m, hm, rfl⟩ | ⟨hx, hnr⟩
  · have hTm := hT.le (show m ≤ len by omega)
    have hF' := hF m (by omega) rfl
    have hS' := hS m (by omega) rfl
    clear hF hS hX
    rw [show wpX7_in (nI m) 0 (nI len) = wpX7_in (nI m) (nI 0) (nI len) from rfl, in_e (by omega) (by decide) (by omega), decide_eq_true (show 0 ≤ m ∧ m ≤ len by omega)]
    refine ⟨fun _ => ?_, fun z => absurd z (by decide)⟩
    unfold wpX7_load_b23
    rw [fails_0]
    refine ⟨fun _ => ?_, fun z => absurd rfl z⟩
    have hw := pWd_2 (tx := tx) (len := m) (w := 0) (a := 0) (Nat.zero_le _) (by decide)
    have hbad : ∀ c o, pText tx m = .inl (c, o) → c ≠ 0 := fun c o hp => bad_ne ((pText_f (tx := tx) (len := m)).1 c o hp).1
    refine takeWordM_s (at_ := 0) hTm (by decide) (Nat.zero_le _) ?_
    unfold pText pHead at hF' hS' hbad
    unfold wpX7_load_b81
    cases w1 : (pWd tx m 0 0).1
    · rw [w1, if_neg (by decide)] at hF'
      dsimp only at hF'
      refine ⟨fun z => absurd rfl z, fun _ => ?_⟩
      rw [report_0]
      have h2 : (-2 : Int32) ≠ 0 := by decide
      refine numberM_s (lo := 10) (hi := 60) hTm (by decide) (by decide) hw.1 (fun _ => ?_) (fun y => absurd y h2) (fun y => absurd y h2)
      refine numberM_s (lo := 2) (hi := 40) hTm (by decide) (by decide) hw.1 (fun _ => ?_) (fun y => absurd y h2) (fun y => absurd y h2)
      refine numberM_s (lo := 0) (hi := 9) hTm (by decide) (by decide) hw.1 (fun _ => ?_) (fun y => absurd y h2) (fun y => absurd y h2)
      exact mhead_E hTm h2 hw.1 (hF' _ _ rfl)
    · rw [w1, if_pos rfl] at hF' hS' hbad
      refine ⟨fun _ => ?_, fun z => absurd z (by decide)⟩
      refine numberM_s (lo := 10) (hi := 60) hTm (by decide) (by decide) hw.1 (fun y => absurd rfl y) (fun _ c o hp a ns ha => ?_) (fun _ a v1 hp => ?_)
      · rw [hp] at hF' hbad
        have he := hbad _ _ rfl
        refine numberM_s (lo := 2) (hi := 40) hTm (by decide) (by decide) ha (fun _ => ?_) (fun y => absurd y he) (fun y => absurd y he)
        refine numberM_s (lo := 0) (hi := 9) hTm (by decide) (by decide) ha (fun _ => ?_) (fun y => absurd y he) (fun y => absurd y he)
        exact mhead_E hTm he ha (hF' _ _ rfl)
      · obtain ⟨a1, -, a3, a4⟩ := pNum_r hw.1 hp
        rw [hp] at hF' hS' hbad
        dsimp only at hF' hS' hbad
        refine numberM_s (lo := 2) (hi := 40) hTm (by decide) (by decide) a1 (fun y => absurd rfl y) (fun _ c o hp a ns ha => ?_) (fun _ b v2 hp => ?_)
        · rw [hp] at hF' hbad
          have he := hbad _ _ rfl
          refine numberM_s (lo := 0) (hi := 9) hTm (by decide) (by decide) ha (fun _ => ?_) (fun y => absurd y he) (fun y => absurd y he)
          exact mhead_E hTm he ha (hF' _ _ rfl)
        · obtain ⟨b1, -, b3, b4⟩ := pNum_r a1 hp
          rw [hp] at hF' hS' hbad
          dsimp only at hF' hS' hbad
          refine numberM_s (lo := 0) (hi := 9) hTm (by decide) (by decide) b1 (fun y => absurd rfl y) (fun _ c o hp a ns ha => ?_) (fun _ c v3 hp => ?_)
          · rw [hp] at hF' hbad
            exact mhead_E hTm (hbad _ _ rfl) ha (hF' _ _ rfl)
          · obtain ⟨c1, -, -, c4⟩ := pNum_r b1 hp
            rw [hp] at hF' hS' hbad
            dsimp only at hF' hS' hbad
            refine layBook_s (fun D hD => ?_)
            refine expect_s hTm c1 (fun y => absurd rfl y) (fun _ c o hp a ha => ?_) (fun _ g u hp => ?_)
            · rw [hp] at hF' hbad
              exact ⟨1, mload_E (hbad _ _ rfl) (hF' _ _ rfl _ _ _ _)⟩
            · have hg := (pSemi_r c1 hp).1
              rw [hp] at hF' hS' hbad
              dsimp only at hF' hS' hbad
              exact ⟨_, mload_L hTm hn (Post := Post) (res := pLoop tx m (m + 1) g false false (bkN v1 v2 v3)) (fun c o hr => ⟨hbad c o hr, hF' c o hr⟩) hS' (m + 1) g false false (bkN v1 v2 v3) _ D (by omega) hg (bkN_ok a3 a4 b3 b4 c4).1 hD rfl⟩
  · have x := hX hnr
    have y : wpX7_load_b23 text a1 Post 0 (nI len) tl pos er erAt eo0 (nI n) ns seen d D0 hist 1 := by
      unfold wpX7_load_b23
      rw [fails_1 (by decide)]
      exact ⟨fun z => absurd z (by decide), fun _ => x⟩
    refine in_s (fun z1 z2 => ?_) (fun _ => ⟨fun z => absurd rfl z, fun _ => y⟩)
    exfalso
    rcases hx with hx | ⟨i, hi, hi2, rfl⟩
    · exact z1 hx
    · exact z2 (nI_lt (by omega) hi2)
end MLD
