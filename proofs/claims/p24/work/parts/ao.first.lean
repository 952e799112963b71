/-! THE LAW'S FIRST CALLS: a new object, refusals, one paragraph put in and taken back; then the random book -/
def bk0 : Nat → Int32 := bkN 40 10 4
def bk1 : Nat → Int32 := insD bk0 0 2 18
theorem bk0_ok : OkB bk0 := by
  refine ⟨⟨by decide, by decide, by decide⟩, ⟨by decide, by decide, by decide⟩, ⟨by decide, by decide⟩, ⟨by decide, by decide⟩, ⟨by decide, by decide⟩, fun k hk => ?_, fun p hp => ?_⟩
  · match k, hk with
    | 0, _ => exact ⟨by decide, by decide⟩
    | 1, _ => exact ⟨by decide, by decide⟩
    | 2, _ => exact ⟨by decide, by decide⟩
    | 3, _ => exact ⟨by decide, by decide⟩
    | 4, _ => exact ⟨by decide, by decide⟩
    | 5, _ => exact ⟨by decide, by decide⟩
    | n + 6, h => exact absurd h (by omega)
  · rw [show dP bk0 = 0 by decide] at hp
    exact absurd hp (Nat.not_lt_zero _)
theorem bk0_P : dP bk0 = 0 := by decide
theorem bk0_W : dW bk0 = 40 := by decide
theorem bk0_S : dS bk0 = 4 := by decide
theorem bk0_SmB : SmB bk0 := by
  refine ⟨by rw [bk0_P]; decide, Or.inl bk0_P, by decide, fun k hk => ?_, fun p hp => ?_, trivial⟩
  · match k, hk with
    | 0, _ => decide
    | 1, _ => decide
    | 2, _ => decide
    | 3, _ => decide
    | 4, _ => decide
    | 5, _ => decide
    | n + 6, h => exact absurd h (by omega)
  · rw [bk0_P] at hp
    exact absurd hp (Nat.not_lt_zero _)
theorem bk1_n6 : numP bk1 (plQ bk1 true) (plS bk1 true) 6 = 1 := by decide +kernel
theorem bk0_pg : (lyP bk0 sg0 (dP bk0)).1 = 0 := by decide +kernel
theorem usu_bk0 {k : Nat} (hk : k < 6) : usu k = bk0 (5 + k) := by
  match k, hk with
  | 0, _ => rfl
  | 1, _ => rfl
  | 2, _ => rfl
  | 3, _ => rfl
  | 4, _ => rfl
  | 5, _ => rfl
  | n + 6, h => exact absurd h (by omega)
section FST
variable {m : Mu} {v4 v5 u cB : Nat} {x : Int32} {tx : Nat → Nat} {H : Nat → Nat → Int32}
/-- the class at the start, and behind the paragraph that was taken back -/
abbrev sS0 (H : Nat → Nat → Int32) (tx : Nat → Nat) : ivS := (bk0, H, 0, tx, 0, -1)
theorem fs_fix : s_fix (sS0 H tx) 0 0 = rNo (sS0 H tx) 1 := by
  unfold s_fix
  rw [cif_n (show ¬ inR (0 : Int32) (dP bk0) from in_no (n := 0) (by decide) (by rw [bk0_P]; decide) (by rw [bk0_P]; exact Nat.le_refl _))]
theorem fs_ins1 : s_insert (sS0 H tx) 1 1 1 = rNo (sS0 H tx) 1 := by
  unfold s_insert
  rw [cif_n (fun y => in_no (n := 1) (by decide) (by rw [bk0_P]; decide) (by rw [bk0_P]; exact Nat.le_refl _) y.1)]
theorem fs_ins37 : s_insert (sS0 H tx) 0 1 37 = rNo (sS0 H tx) 1 := by
  unfold s_insert
  rw [cif_n (fun y => ?_)]
  obtain ⟨-, -, l, h1, h2, h3⟩ := y
  rw [bk0_W, bk0_S] at h2
  have := (nI_eq (a := 37) (by decide) (by omega)).mp (show nI 37 = nI l from h3)
  omega
theorem fs_rem : s_remove (sS0 H tx) 0 = rNo (sS0 H tx) 1 := by
  unfold s_remove
  rw [cif_n (show ¬ inR (0 : Int32) (dP bk0) from in_no (n := 0) (by decide) (by rw [bk0_P]; decide) (by rw [bk0_P]; exact Nat.le_refl _))]
theorem fs_cost : s_setCost (sS0 H tx) 6 0 = rNo (sS0 H tx) 1 := by
  unfold s_setCost
  rw [cif_n (fun y => in_no (n := 6) (by decide) (by decide) (Nat.le_refl _) y.1)]
theorem fs_help : s_help (sS0 H tx) 0 = rNo (sS0 H tx) 1 := by
  unfold s_help
  rw [cif_n (show ¬ inR (0 : Int32) (lyP bk0 sg0 (dP bk0)).1 from in_no (n := 0) (by decide) (by rw [bk0_pg]; decide) (by rw [bk0_pg]; exact Nat.le_refl _))]
theorem fs_ins : s_insert (sS0 H tx) 0 2 18 = rEd (sS0 H tx) (nI 1) bk1 := by
  unfold s_insert
  rw [cif_y ⟨⟨0, by rw [bk0_P]; decide, rfl⟩, ⟨2, by decide, by decide, rfl⟩, 18, by decide, by rw [bk0_W, bk0_S]; decide, rfl⟩, if_neg (by rw [bk0_P]; decide)]
  rfl
theorem fs_plan {S : ivS} (h : S.1 = bk1) : s_plan S true 6 = rOk S (nI 1) := by
  unfold s_plan
  rw [cif_y ⟨6, by decide, rfl⟩, h]
  have e : nz 6 = 6 := rfl
  rw [e, bk1_n6]
theorem fs_undo : s_undo (ivE (sS0 H tx) bk1) = (0, nI 0, true, sS0 (pushH H 0 bk0) tx) := rfl
theorem W4_z : W4 (fun _ => 0) = 0 := by
  unfold W4
  rw [Nat.zero_mul, Nat.zero_mul, Nat.zero_mul]
  rfl
theorem fs_b178 {S : ivS} (hS : S.2.2.1 = 0 ∧ S.2.2.2.2.1 = 0) (hb : mI m v4 = some (8, fun _ => 0)) (hr : mR m v5 = some x) (hu : u + 420000 ≤ cB) : wpL_law_b178 cB True S m u v4 v5 1 := by
  unfold wpL_law_b178
  have hW : WB S S m v4 [] := ⟨⟨S.2.2.2.1, S.2.2.2.2.1, rfl⟩, _, hb, by decide, fun i => by show 0 < 128; decide, rfl, fun j _ => (by show (0 : Int32) = nI (W4 (fun _ => 0)); rw [W4_z]; rfl), hS.2, fun i hi => absurd hi (Nat.not_lt_zero _)⟩
  refine ⟨80, by omega, randomBook_s hW hr (Nat.le_refl _) (fun b S' m' dd c ps st g wd bs F hS' hO hSm hB hOw hR => ⟨fun z => absurd z (by decide), fun _ => ⟨17600, by omega, ?_⟩⟩)⟩
  obtain ⟨tx', rfl⟩ := hS'
  obtain ⟨k0, k1, hL⟩ := LB.own hB hOw
  refine agrees_LB hO hSm hL (Nat.le_refl _) (fun m2 f2 L2 => ⟨fun z => absurd z (by decide), fun _ => ?_⟩)
  unfold wpL_law_b214
  refine ⟨9, rfl, by decide, by omega, fun a8 ha8 mu9 e9 => ?_⟩
  have f9 : Fx e0 m2 mu9 := by rw [e9]; exact Fx.sQ (Or.inr ha8.2.1)
  obtain ⟨xr, hxr⟩ := hR
  have q9 : mQ mu9 a8 = some (3, 9, fun _ => none) := by rw [e9]; exact up_s
  have hI : INV (dd, pushH S.2.1 S.2.2.1 S.1, pushN S.2.2.1, tx', 0, -1) mu9 b v5 a8 0 := ⟨hO, hSm, ⟨by show pushN S.2.2.1 ≤ 8; rw [hS.1]; decide, rfl⟩, Or.inl (Nat.zero_le _), ⟨xr, f9.R (fun w => w) (exK_R f2 hxr)⟩, k0, k1, L2.f0 f9, _, q9, fun j a _ w => absurd w (by intro z; cases z), fun j hj => absurd hj (Nat.not_lt_zero _), fun i j a hi => absurd hi (Nat.not_lt_zero _)⟩
  exact loop_s hI (by omega)
theorem law_s {H : Nat → Nat → Int32} (hb : mI m v4 = some (8, fun _ => 0)) (hr : mR m v5 = some x) (hu : u + 440000 ≤ cB) : wpL_law cB True (sS0 H tx) m u 1 v4 v5 := by
  unfold wpL_law
  refine ⟨by omega, fun a1 ha1 mu2 e2 => ⟨9, by omega, ?_⟩⟩
  have f2 : Fx e0 m mu2 := by rw [e2]; exact Fx.sB (Or.inr ha1.2.2.2.1)
  refine book_init (x := (0, 0, 0, 0, none, none, none, none, none, 0)) (by rw [e2]; exact up_s) (Nat.le_refl _) (fun mu5 c ps st f5 hc hps hst hcs b5 c5 p5 s5 => ⟨17600, by omega, ?_⟩)
  obtain ⟨fc, c5, c5'⟩ := c5
  obtain ⟨qq, p5⟩ := p5
  have i2 : mI mu2 v4 = some (8, fun _ => 0) := f2.I (fun w => w) hb
  have hB : BK mu5 a1 bk0 c ps st (fun _ => 0) (fun _ => 0) (none, none, 0) := ⟨b5, ⟨fc, c5, fun k hk => by rw [c5' k hk]; exact usu_bk0 hk⟩, ⟨qq, p5, fun p hp => absurd hp (Nat.not_lt_zero _)⟩, fun p hp => absurd hp (Nat.not_lt_zero _), s5⟩
  refine agrees_s (S := sS0 H tx) bk0_ok bk0_SmB hB hcs (fun p hp => absurd hp (Nat.not_lt_zero _)) (Nat.le_refl _) (fun mu6 bs6 f6 B6 => ⟨fun z => absurd z (by decide), fun _ => ⟨by omega, fun S157 e157 r157 q157 => ?_⟩⟩)
  have hb6 : mI mu6 v4 = some (8, fun _ => 0) := by
    refine f6.I (fun w => ?_) (f5.I (fun w => absurd w.1 (by decide)) i2)
    rcases w with w | w
    · exact absurd w.1 (by decide)
    · have hn := hst.1
      rw [← w.2, i2] at hn
      cases hn
  have hr6 : mR mu6 v5 = some x := by
    refine f6.R (fun w => ?_) (f5.R (fun w => absurd w.1 (by decide)) (f2.R (fun w => w) hr))
    rcases w with w | w <;> exact absurd w.1 (by decide)
  have g157 : S157 = sS0 H tx := e157
  subst g157
  refine ⟨fun z => absurd q157 z, fun _ => ⟨by omega, fun S158 e158 r158 q158 => ?_⟩⟩
  have g158 : S158 = sS0 H tx := e158
  subst g158
  refine ⟨fun z => absurd q158 z, fun _ => ⟨by omega, fun S159 e159 r159 q159 => ?_⟩⟩
  rw [fs_fix] at e159 q159
  have g159 : S159 = sS0 H tx := e159
  subst g159
  refine ⟨fun z => absurd (q159.trans (an2_1 rfl)) z, fun _ => ⟨by omega, fun S160 e160 r160 q160 => ?_⟩⟩
  rw [fs_ins1] at e160 q160
  have g160 : S160 = sS0 H tx := e160
  subst g160
  refine ⟨fun z => absurd (q160.trans (an2_1 rfl)) z, fun _ => ⟨by omega, fun S161 e161 r161 q161 => ?_⟩⟩
  rw [fs_ins37] at e161 q161
  have g161 : S161 = sS0 H tx := e161
  subst g161
  refine ⟨fun z => absurd (q161.trans (an2_1 rfl)) z, fun _ => ⟨by omega, fun S162 e162 r162 q162 => ?_⟩⟩
  rw [fs_rem] at e162 q162
  have g162 : S162 = sS0 H tx := e162
  subst g162
  refine ⟨fun z => absurd (q162.trans (an1_1 rfl)) z, fun _ => ⟨by omega, fun S163 e163 r163 q163 => ?_⟩⟩
  rw [fs_cost] at e163 q163
  have g163 : S163 = sS0 H tx := e163
  subst g163
  refine ⟨fun z => absurd (q163.trans (an1_1 rfl)) z, fun _ => ⟨by omega, fun S164 e164 r164 q164 => ?_⟩⟩
  rw [fs_help] at e164 q164
  have g164 : S164 = sS0 H tx := e164
  subst g164
  refine ⟨fun z => absurd (q164.trans (an1_1 rfl)) z, fun _ => ⟨by omega, fun S165 e165 r165 q165 => ?_⟩⟩
  rw [fs_ins] at e165 q165
  have g165 : S165 = ivE (sS0 H tx) bk1 := e165
  subst g165
  refine ⟨fun z => absurd (q165.trans (an2_0 rfl)) z, fun _ => ⟨by omega, fun S166 e166 r166 q166 => ?_⟩⟩
  rw [fs_plan rfl] at e166 q166
  have g166 : S166 = ivE (sS0 H tx) bk1 := e166
  subst g166
  refine ⟨fun z => absurd (q166.trans (an1_0 rfl)) z, fun _ => ⟨by omega, fun S167 e167 r167 q167 => ?_⟩⟩
  rw [fs_undo] at e167 q167
  have g167 : S167 = sS0 (pushH H 0 bk0) tx := e167
  subst g167
  exact ⟨fun z => absurd q167 z, fun _ => fs_b178 ⟨rfl, rfl⟩ hb6 hr6 (by omega)⟩
end FST
