/-! THE REFERENCE: layBest, lay -/
section MBE
variable {d : Nat → Int32} {lines : Nat → Nat → Int32} {setting : Nat → Int32} {p : Nat}
theorem best_s {Post : Int32 → (Nat → Int32) → (Nat → Nat → Int32) → (Nat → Nat → Int32) → (Nat → Nat → Nat → Nat → Int32) → (Nat → Int32) → (Nat → Int32) → (Nat → Int32) → (Nat → Int32) → (Nat → Int32) → (Nat → Int32) → (Nat → Nat → Int32) → Prop} {K : Int32 → (Nat → Int32) → (Nat → Nat → Int32) → (Nat → Nat → Int32) → (Nat → Nat → Nat → Nat → Int32) → (Nat → Int32) → (Nat → Int32) → (Nat → Int32) → (Nat → Int32) → (Nat → Int32) → (Nat → Int32) → (Nat → Nat → Int32) → Int32 → Prop} {ll st : Nat → Int32} {CA : Nat → Nat → Int32} {W : (Nat → Nat → Nat → Nat → Int32)} {pages : Int32} {fp fl sz bc ec : Nat → Int32} {po : Nat → Nat → Int32} (hO : OkB d) (hM : MLn d lines) (hp : p < dP d) (hCA : CA p (onP (lyB d p)) = nI (VR d (dP d - p) (onP (lyB d p)))) (hW : ∀ s, s < 3 → WI d p s (VR d (dP d - (p + 1))) (cnt d p s) W)
    (hA : MPl d (lyB d p) (fun p => cnt d p (sgB d p)) (Ld (fun p => cnt d p (sgB d p)) p 0) pages fp fl sz bc ec po)
    (hK : ∀ pages fp fl sz bc ec po, MPl d (lyB d (p + 1)) (fun p => cnt d p (sgB d p)) (Ld (fun p => cnt d p (sgB d p)) (p + 1) 0) pages fp fl sz bc ec po → K pages ll lines CA W (upd st p (nI (sgB d p))) fp fl sz bc ec po (nI (p + 1))) :
    ∀ (r s : Nat), s + r = sgB d p → wpX7_layBest_L28 d Post K (r + 1) pages ll lines CA W st fp fl sz bc ec po (nI p) (nI s) (nI (onP (lyB d p)))
  | r, s, hs => by
    have h16 := hO.p16
    have h40 := hO.h40
    have hb : sgB d p < 3 := bS_lt hO hp _ _
    have hs3 : s < 3 := by omega
    have hin := PlIn_lyB hO p (by omega)
    have hon := hin.on
    have hpg := lyB_pages hO p (by omega)
    have hc := cnt_le hO hp (sgB d p)
    have hnx : ∀ n, VR d (dP d - (p + 1)) n ≤ 21098880 := fun n => VR_lt hO (by omega) n
    have hcs := cS_le hO hp hs3 hnx (onP (lyB d p))
    have hcb := cS_le hO hp hb hnx (onP (lyB d p))
    unfold wpX7_layBest_L28 wpX7_layBest_b67
    rw [allowed_m hO hp hs3]
    have w0 := hW s hs3 (cnt d p s) (Nat.le_refl _) _ hon
    rw [Nat.sub_self] at w0
    have ecs : sC d s (cnt d p s) + Wl d p (cnt d p s) (VR d (dP d - (p + 1))) (cnt d p s) (onP (lyB d p)) = cS d p (VR d (dP d - (p + 1))) s (onP (lyB d p)) := rfl
    have ebs : bS d p (VR d (dP d - (p + 1))) (onP (lyB d p)) = sgB d p := rfl
    have hVR := VR_at hp (onP (lyB d p))
    rw [ebs] at hVR
    rcases Nat.eq_zero_or_pos r with hr | hr
    · have e : s = sgB d p := by omega
      have hal := alw_bS (nx := VR d (dP d - (p + 1))) hO hp (onP (lyB d p))
      rw [ebs, ← e] at hal
      rw [hal]
      refine ⟨fun z => absurd z (by decide), fun _ => ?_⟩
      rw [settingCost_m hO hM hp hs3, nI_clamp (show p < 2 ^ 31 by omega), nI_clamp (show s < 2 ^ 31 by omega), nI_clamp (show onP (lyB d p) < 2 ^ 31 by omega), show (0 : Int32).toNatClampNeg = 0 from rfl, w0, nI_add, ecs, hCA, hVR, ← e]
      refine ⟨vp_in_nI (by omega) (by decide), vp_in_nI (by omega) (by decide), vp_in_nI (n := 0) (by decide) (by decide), vp_in_nI (by omega) (by decide), vp_in_nI (by omega) (by decide), vp_in_nI (by omega) (by decide), fun _ => ⟨vp_in_nI (by omega) (by decide), cnt d p s + 1, ?_⟩, fun z => absurd rfl z⟩
      refine best_in (sg := sgB d) hO hM hp hs3 e.symm pk_us (hW s hs3) (hin.up (by omega)) (by rw [e]; omega) (FLt_lyB p) (fun pages fp fl sz bc ec po hA' => ?_) (cnt d p s) 0 pages fp fl sz bc ec po (by omega) hA
      have := hK pages fp fl sz bc ec po
      rw [← e] at this
      refine this (MPl_mono (L := Ld (fun p => cnt d p (sgB d p)) p (cnt d p s)) (fun p' l' hL => ?_) ?_)
      · unfold Ld at hL ⊢
        rcases hL with ⟨h1, h2⟩ | ⟨_, h2⟩
        · rcases Nat.lt_or_ge p' p with g | g
          · exact Or.inl ⟨g, h2⟩
          · have e2 : p' = p := by omega
            subst e2
            right
            refine ⟨rfl, ?_⟩
            rw [e]
            exact h2
        · exact absurd h2 (Nat.not_lt_zero _)
      · have e3 : lyB d (p + 1) = lyL p (enB d p s) (lyB d p) (cnt d p s) := by
          show lyL p (enB d p (stB d p (lyB d p))) (lyB d p) (cnt d p (stB d p (lyB d p))) = _
          have : stB d p (lyB d p) = s := e.symm
          rw [this]
        rw [e3]
        exact hA'
    · have hlt : s < bS d p (VR d (dP d - (p + 1))) (onP (lyB d p)) := by rw [ebs]; omega
      have next : wpX7_layBest_L28 d Post K r pages ll lines CA W st fp fl sz bc ec po (nI p) (nI s + (1 : Int32)) (nI (onP (lyB d p))) := by
        rw [nI_1]
        obtain ⟨m, rfl⟩ : ∃ m, r = m + 1 := ⟨r - 1, by omega⟩
        exact best_s hO hM hp hCA hW hA hK m (s + 1) (by omega)
      cases hal : alw d p s
      · exact ⟨fun _ => next, fun z => absurd rfl z⟩
      · refine ⟨fun z => absurd z (by decide), fun _ => ?_⟩
        have hne := bS_first hO hp (onP (lyB d p)) hlt hal
        rw [ebs] at hne
        rw [settingCost_m hO hM hp hs3, nI_clamp (show p < 2 ^ 31 by omega), nI_clamp (show s < 2 ^ 31 by omega), nI_clamp (show onP (lyB d p) < 2 ^ 31 by omega), show (0 : Int32).toNatClampNeg = 0 from rfl, w0, nI_add, ecs, hCA, hVR]
        refine ⟨vp_in_nI (by omega) (by decide), vp_in_nI (by omega) (by decide), vp_in_nI (n := 0) (by decide) (by decide), vp_in_nI (by omega) (by decide), vp_in_nI (by omega) (by decide), vp_in_nI (by omega) (by decide), fun z => ?_, fun _ => next⟩
        exact absurd ((nI_eq (by omega) (by omega)).mp z) hne
theorem best_L {Post : Int32 → (Nat → Int32) → (Nat → Nat → Int32) → (Nat → Nat → Int32) → (Nat → Nat → Nat → Nat → Int32) → (Nat → Int32) → (Nat → Int32) → (Nat → Int32) → (Nat → Int32) → (Nat → Int32) → (Nat → Int32) → (Nat → Nat → Int32) → Prop} {ll : Nat → Int32} {CA : Nat → Nat → Int32} {W : (Nat → Nat → Nat → Nat → Int32)} (hO : OkB d) (hM : MLn d lines) (hCW : CAW d 0 CA W)
    (h : ∀ pages st fp fl sz bc ec po, MPlan d (lyB d (dP d)) (sgB d) lines pages st fp fl sz bc ec po → Post pages ll lines CA W st fp fl sz bc ec po) :
    ∀ (r p : Nat) (pages : Int32) (st fp fl sz bc ec : Nat → Int32) (po : Nat → Nat → Int32), p + r = dP d → (∀ q, q < p → st q = nI (sgB d q)) → MPl d (lyB d p) (fun p => cnt d p (sgB d p)) (Ld (fun p => cnt d p (sgB d p)) p 0) pages fp fl sz bc ec po →
      wpX7_layBest_L11 d Post (r + 1) pages ll lines CA W st fp fl sz bc ec po (nI p)
  | 0, p, pages, st, fp, fl, sz, bc, ec, po, hp, hS, hA => by
    have h16 := hO.p16
    unfold wpX7_layBest_L11
    rw [show d (4 : Int32).toNatClampNeg = nI (dP d) from hO.p]
    have a : nI (dP d) ≤ nI p := by rw [nI_leI (by omega) (by omega)]; omega
    refine ⟨vp_in_nI (n := 4) (by decide) (by decide), fun _ => ?_, fun z => absurd a z⟩
    have e : p = dP d := by omega
    subst e
    exact h _ _ _ _ _ _ _ _ ⟨hM, hS, fun p hp => bS_lt hO hp _ _, lyB_ok hO (Nat.le_refl _), hA⟩
  | r + 1, p, pages, st, fp, fl, sz, bc, ec, po, hp, hS, hA => by
    have h16 := hO.p16
    have hpp : p < dP d := by omega
    have hpg := lyB_pages hO p (by omega)
    have hin := PlIn_lyB hO p (by omega)
    have hon := hin.on
    unfold wpX7_layBest_L11
    rw [show d (4 : Int32).toNatClampNeg = nI (dP d) from hO.p]
    have a : ¬ nI (dP d) ≤ nI p := by rw [nI_leI (by omega) (by omega)]; omega
    refine ⟨vp_in_nI (n := 4) (by decide) (by decide), fun z => absurd z a, fun _ => ?_⟩
    rw [onPage_m (by omega) hA]
    refine ⟨sgB d p + 1, best_s hO hM hpp (hCW.1 p (Nat.zero_le _) (by omega) _ hon) (fun s hs => hCW.2 p (Nat.zero_le _) hpp s hs) hA (fun pages fp fl sz bc ec po hA' => ?_) (sgB d p) 0 (by omega)⟩
    refine best_L hO hM hCW h r (p + 1) _ _ _ _ _ _ _ _ (by omega) (fun q hq => ?_) hA'
    by_cases g : q = p
    · subst g; rw [pk_us]
    · rw [pk_un g]; exact hS q (by omega)
theorem layBestM_s {Post : Int32 → (Nat → Int32) → (Nat → Nat → Int32) → (Nat → Nat → Int32) → (Nat → Nat → Nat → Nat → Int32) → (Nat → Int32) → (Nat → Int32) → (Nat → Int32) → (Nat → Int32) → (Nat → Int32) → (Nat → Int32) → (Nat → Nat → Int32) → Prop} {ll : Nat → Int32} {CA : Nat → Nat → Int32} {W : (Nat → Nat → Nat → Nat → Int32)} {pages : Int32} {fp fl sz bc ec : Nat → Int32} {po : Nat → Nat → Int32} (hO : OkB d)
    (h : ∀ pages ll lines CA W st fp fl sz bc ec po, CAW d 0 CA W → MPlan d (lyB d (dP d)) (sgB d) lines pages st fp fl sz bc ec po → Post pages ll lines CA W st fp fl sz bc ec po) : wpX7_layBest pages d ll lines CA W setting fp fl sz bc ec po Post := by
  unfold wpX7_layBest
  refine layCosts_s hO (fun ll' lines' CA' W' hM hCW => ⟨dP d + 1, ?_⟩)
  exact best_L hO hM hCW (fun pages st fp fl sz bc ec po hA => h _ _ _ _ _ _ _ _ _ _ _ _ hCW hA) (dP d) 0 0 setting fp fl sz bc ec po (by omega) (fun q hq => absurd hq (Nat.not_lt_zero _)) ⟨rfl, fun k hk => absurd hk (Nat.not_lt_zero _), fun p l hL => by unfold Ld at hL; omega⟩
theorem layM_s {Post : Int32 → (Nat → Int32) → (Nat → Nat → Int32) → (Nat → Nat → Int32) → (Nat → Nat → Nat → Nat → Int32) → (Nat → Int32) → (Nat → Int32) → (Nat → Int32) → (Nat → Int32) → (Nat → Int32) → (Nat → Int32) → (Nat → Nat → Int32) → Prop} {ll : Nat → Int32} {CA : Nat → Nat → Int32} {W : (Nat → Nat → Nat → Nat → Int32)} {pages : Int32} {fp fl sz bc ec : Nat → Int32} {po : Nat → Nat → Int32} (best : Bool) (hO : OkB d)
    (h : ∀ pages ll lines CA W st fp fl sz bc ec po, MPlan d (plQ d best) (plS d best) lines pages st fp fl sz bc ec po → Post pages ll lines CA W st fp fl sz bc ec po) : wpX7_lay pages d ll lines CA W setting fp fl sz bc ec po (bI best) Post := by
  unfold wpX7_lay
  cases best
  · exact ⟨fun _ => layPlainM_s hO (fun pages ll lines st fp fl sz bc ec po hA => h _ _ _ _ _ _ _ _ _ _ _ _ hA), fun z => absurd rfl z⟩
  · exact ⟨fun z => absurd z (by decide), fun _ => layBestM_s hO (fun pages ll lines CA W st fp fl sz bc ec po _ hA => h _ _ _ _ _ _ _ _ _ _ _ _ hA)⟩
end MBE
