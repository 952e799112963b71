/-! THE REFERENCE'S CALLS, one by one -/
set_option maxHeartbeats 4000000 in
set_option maxRecDepth 100000 in
theorem mi_thrown (l : Launch) (D : va_G) (cA : Nat → ClassId) (h rH rL rC rP r1 r2 r3 : Nat → Nat) {S : ivS} {th : Int32} {w : va_W} (kO : OkB S.1) (k8 : S.2.2.1 ≤ 8) (hI : imI cA h rH rL rC rP r1 r2 r3 S th w) : Con l D cA yX7_thrown (wm yX7_thrown cX7_thrown 1 (some .int)) { frames := 0, cells := 0, slots := 0, locals := 0 } w [.ref (h 0)] 0 0 (PI (fun r w' => imT cA h rH rL rC rP r1 r2 r3 S th r w')) := by
  obtain ⟨d, hist, n, tx, len, eo⟩ := S
  have kO : OkB d := kO
  have k8 : n ≤ 8 := k8
  refine hI.elim (P := fun w => Con l D cA yX7_thrown (wm yX7_thrown cX7_thrown 1 (some .int)) { frames := 0, cells := 0, slots := 0, locals := 0 } w [.ref (h 0)] 0 0 (PI (fun r w' => imT cA h rH rL rC rP r1 r2 r3 (d, hist, n, tx, len, eo) th r w'))) ?_
  intro thrown textLength position error errorAt numberStart seen pages buffer draft lineLength lines costAhead within setting firstParagraph firstLine pageLines beginCosts endCosts pageOf kT e0
  have h16 := kO.p16
  refine Con.imp (conX7_thrown l D cA h rH rL rC rP r1 r2 r3 thrown (nI len) textLength position error errorAt eo (nI n) numberStart seen pages buffer d draft hist lineLength lines costAhead within setting firstParagraph firstLine pageLines beginCosts endCosts pageOf (fun r => imT cA h rH rL rC rP r1 r2 r3 (d, hist, n, tx, len, eo) th r (imW cA h rH rL rC rP r1 r2 r3 thrown (nI len) textLength position error errorAt eo (nI n) numberStart seen pages buffer d draft hist lineLength lines costAhead within setting firstParagraph firstLine pageLines beginCosts endCosts pageOf)) ?_) ?_
  · exact ⟨e0, by rw [← e0]; exact imI.mk kT rfl rfl rfl rfl rfl⟩
  · rintro v w ⟨r, rfl, rfl, hp⟩
    exact ⟨r, rfl, hp⟩

set_option maxHeartbeats 4000000 in
set_option maxRecDepth 100000 in
theorem mi_append (l : Launch) (D : va_G) (cA : Nat → ClassId) (h rH rL rC rP r1 r2 r3 : Nat → Nat) (a1 : Int32) (a2 : Int32) (a3 : Int32) (a4 : Int32) (a5 : Int32) {S : ivS} {th : Int32} {w : va_W} (kO : OkB S.1) (k8 : S.2.2.1 ≤ 8) (hI : imI cA h rH rL rC rP r1 r2 r3 S th w) : Con l D cA yX7_append (wm yX7_append cX7_append 8 (some .int)) { frames := 0, cells := 0, slots := 0, locals := 0 } w [.ref (h 0), .int a1, .int a2, .int a3, .int a4, .int a5] 0 0 (PI (fun r w' => imO cA h rH rL rC rP r1 r2 r3 (s_append S a1 a2 a3 a4 a5) r w')) := by
  obtain ⟨d, hist, n, tx, len, eo⟩ := S
  have kO : OkB d := kO
  have k8 : n ≤ 8 := k8
  refine hI.elim (P := fun w => Con l D cA yX7_append (wm yX7_append cX7_append 8 (some .int)) { frames := 0, cells := 0, slots := 0, locals := 0 } w [.ref (h 0), .int a1, .int a2, .int a3, .int a4, .int a5] 0 0 (PI (fun r w' => imO cA h rH rL rC rP r1 r2 r3 (s_append (d, hist, n, tx, len, eo) a1 a2 a3 a4 a5) r w'))) ?_
  intro thrown textLength position error errorAt numberStart seen pages buffer draft lineLength lines costAhead within setting firstParagraph firstLine pageLines beginCosts endCosts pageOf kT e0
  have h16 := kO.p16
  refine Con.imp (conX7_append l D cA h rH rL rC rP r1 r2 r3 thrown (nI len) textLength position error errorAt eo (nI n) numberStart seen pages buffer d draft hist lineLength lines costAhead within setting firstParagraph firstLine pageLines beginCosts endCosts pageOf a1 a2 a3 a4 a5 (fun r thrown' bufferLength' buffer' => imO cA h rH rL rC rP r1 r2 r3 (s_append (d, hist, n, tx, len, eo) a1 a2 a3 a4 a5) r (imW cA h rH rL rC rP r1 r2 r3 thrown' bufferLength' textLength position error errorAt eo (nI n) numberStart seen pages buffer' d draft hist lineLength lines costAhead within setting firstParagraph firstLine pageLines beginCosts endCosts pageOf)) ?_) ?_
  · refine appendM_s kT (fun h1 b' kT' => ?_) (fun h1 => ?_)
    · have e : (s_append (d, hist, n, tx, len, eo) a1 a2 a3 a4 a5) = (0, nI (len + 20), false, (d, hist, n, appT tx len a1 a2 a3 a4 a5, len + 20, eo)) := if_pos h1
      show imO cA h rH rL rC rP r1 r2 r3 (s_append (d, hist, n, tx, len, eo) a1 a2 a3 a4 a5) _ _
      rw [e]
      exact ⟨rfl, _, ivN.rf, imI.mk kT' rfl rfl rfl rfl rfl⟩
    · have e : (s_append (d, hist, n, tx, len, eo) a1 a2 a3 a4 a5) = rOk (d, hist, n, tx, len, eo) (-1) := if_neg (show ¬ len + 20 ≤ 700 by omega)
      show imO cA h rH rL rC rP r1 r2 r3 (s_append (d, hist, n, tx, len, eo) a1 a2 a3 a4 a5) _ _
      rw [e]
      exact ⟨rfl, _, ivN.rf, imI.mk kT rfl rfl rfl rfl rfl⟩
  · rintro v w ⟨r, rfl, thrown', bufferLength', buffer', rfl, hp⟩
    exact ⟨r, rfl, hp⟩

set_option maxHeartbeats 4000000 in
set_option maxRecDepth 100000 in
theorem mi_errorOffset (l : Launch) (D : va_G) (cA : Nat → ClassId) (h rH rL rC rP r1 r2 r3 : Nat → Nat) {S : ivS} {th : Int32} {w : va_W} (kO : OkB S.1) (k8 : S.2.2.1 ≤ 8) (hI : imI cA h rH rL rC rP r1 r2 r3 S th w) : Con l D cA yX7_errorOffset (wm yX7_errorOffset cX7_errorOffset 1 (some .int)) { frames := 0, cells := 0, slots := 0, locals := 0 } w [.ref (h 0)] 0 0 (PI (fun r w' => imO cA h rH rL rC rP r1 r2 r3 (rOk S (S).2.2.2.2.2) r w')) := by
  obtain ⟨d, hist, n, tx, len, eo⟩ := S
  have kO : OkB d := kO
  have k8 : n ≤ 8 := k8
  refine hI.elim (P := fun w => Con l D cA yX7_errorOffset (wm yX7_errorOffset cX7_errorOffset 1 (some .int)) { frames := 0, cells := 0, slots := 0, locals := 0 } w [.ref (h 0)] 0 0 (PI (fun r w' => imO cA h rH rL rC rP r1 r2 r3 (rOk (d, hist, n, tx, len, eo) ((d, hist, n, tx, len, eo)).2.2.2.2.2) r w'))) ?_
  intro thrown textLength position error errorAt numberStart seen pages buffer draft lineLength lines costAhead within setting firstParagraph firstLine pageLines beginCosts endCosts pageOf kT e0
  have h16 := kO.p16
  refine Con.imp (conX7_errorOffset l D cA h rH rL rC rP r1 r2 r3 thrown (nI len) textLength position error errorAt eo (nI n) numberStart seen pages buffer d draft hist lineLength lines costAhead within setting firstParagraph firstLine pageLines beginCosts endCosts pageOf (fun r thrown' => imO cA h rH rL rC rP r1 r2 r3 (rOk (d, hist, n, tx, len, eo) ((d, hist, n, tx, len, eo)).2.2.2.2.2) r (imW cA h rH rL rC rP r1 r2 r3 thrown' (nI len) textLength position error errorAt eo (nI n) numberStart seen pages buffer d draft hist lineLength lines costAhead within setting firstParagraph firstLine pageLines beginCosts endCosts pageOf)) ?_) ?_
  · exact ⟨rfl, _, ivN.rf, imI.mk kT rfl rfl rfl rfl rfl⟩
  · rintro v w ⟨r, rfl, thrown', rfl, hp⟩
    exact ⟨r, rfl, hp⟩

set_option maxHeartbeats 4000000 in
set_option maxRecDepth 100000 in
theorem mi_saved (l : Launch) (D : va_G) (cA : Nat → ClassId) (h rH rL rC rP r1 r2 r3 : Nat → Nat) {S : ivS} {th : Int32} {w : va_W} (kO : OkB S.1) (k8 : S.2.2.1 ≤ 8) (hI : imI cA h rH rL rC rP r1 r2 r3 S th w) : Con l D cA yX7_saved (wm yX7_saved cX7_saved 2 (some .int)) { frames := 7, cells := 0, slots := 0, locals := 153 } w [.ref (h 0)] 0 0 (PI (fun r w' => imO cA h rH rL rC rP r1 r2 r3 (s_saved S) r w')) := by
  obtain ⟨d, hist, n, tx, len, eo⟩ := S
  have kO : OkB d := kO
  have k8 : n ≤ 8 := k8
  refine hI.elim (P := fun w => Con l D cA yX7_saved (wm yX7_saved cX7_saved 2 (some .int)) { frames := 7, cells := 0, slots := 0, locals := 153 } w [.ref (h 0)] 0 0 (PI (fun r w' => imO cA h rH rL rC rP r1 r2 r3 (s_saved (d, hist, n, tx, len, eo)) r w'))) ?_
  intro thrown textLength position error errorAt numberStart seen pages buffer draft lineLength lines costAhead within setting firstParagraph firstLine pageLines beginCosts endCosts pageOf kT e0
  have h16 := kO.p16
  refine Con.imp (conX7_saved l D cA h rH rL rC rP r1 r2 r3 thrown (nI len) textLength position error errorAt eo (nI n) numberStart seen pages buffer d draft hist lineLength lines costAhead within setting firstParagraph firstLine pageLines beginCosts endCosts pageOf (fun r thrown' pages' lineLength' lines' costAhead' within' setting' firstParagraph' firstLine' pageLines' beginCosts' endCosts' pageOf' => imO cA h rH rL rC rP r1 r2 r3 (s_saved (d, hist, n, tx, len, eo)) r (imW cA h rH rL rC rP r1 r2 r3 thrown' (nI len) textLength position error errorAt eo (nI n) numberStart seen pages' buffer d draft hist lineLength' lines' costAhead' within' setting' firstParagraph' firstLine' pageLines' beginCosts' endCosts' pageOf')) ?_) ?_
  · exact savedM_s kO (fun _ _ _ _ _ _ _ _ _ _ _ _ => ⟨rfl, _, ivN.rf, imI.mk kT rfl rfl rfl rfl rfl⟩)
  · rintro v w ⟨r, rfl, thrown', pages', lineLength', lines', costAhead', within', setting', firstParagraph', firstLine', pageLines', beginCosts', endCosts', pageOf', rfl, hp⟩
    exact ⟨r, rfl, hp⟩

set_option maxHeartbeats 4000000 in
set_option maxRecDepth 100000 in
theorem mi_checksum (l : Launch) (D : va_G) (cA : Nat → ClassId) (h rH rL rC rP r1 r2 r3 : Nat → Nat) {S : ivS} {th : Int32} {w : va_W} (kO : OkB S.1) (k8 : S.2.2.1 ≤ 8) (hI : imI cA h rH rL rC rP r1 r2 r3 S th w) : Con l D cA yX7_checksum (wm yX7_checksum cX7_checksum 5 (some .long)) { frames := 9, cells := 0, slots := 0, locals := 210 } w [.ref (h 0)] 0 0 (PL (fun r w' => imOL cA h rH rL rC rP r1 r2 r3 S r w')) := by
  obtain ⟨d, hist, n, tx, len, eo⟩ := S
  have kO : OkB d := kO
  have k8 : n ≤ 8 := k8
  refine hI.elim (P := fun w => Con l D cA yX7_checksum (wm yX7_checksum cX7_checksum 5 (some .long)) { frames := 9, cells := 0, slots := 0, locals := 210 } w [.ref (h 0)] 0 0 (PL (fun r w' => imOL cA h rH rL rC rP r1 r2 r3 (d, hist, n, tx, len, eo) r w'))) ?_
  intro thrown textLength position error errorAt numberStart seen pages buffer draft lineLength lines costAhead within setting firstParagraph firstLine pageLines beginCosts endCosts pageOf kT e0
  have h16 := kO.p16
  refine Con.imp (conX7_checksum l D cA h rH rL rC rP r1 r2 r3 thrown (nI len) textLength position error errorAt eo (nI n) numberStart seen pages buffer d draft hist lineLength lines costAhead within setting firstParagraph firstLine pageLines beginCosts endCosts pageOf (fun r thrown' pages' lineLength' lines' costAhead' within' setting' firstParagraph' firstLine' pageLines' beginCosts' endCosts' pageOf' => imOL cA h rH rL rC rP r1 r2 r3 (d, hist, n, tx, len, eo) r (imW cA h rH rL rC rP r1 r2 r3 thrown' (nI len) textLength position error errorAt eo (nI n) numberStart seen pages' buffer d draft hist lineLength' lines' costAhead' within' setting' firstParagraph' firstLine' pageLines' beginCosts' endCosts' pageOf')) ?_) ?_
  · exact checksumM_s kO (fun _ _ _ _ _ _ _ _ _ _ _ _ => ⟨rfl, imI.mk kT rfl rfl rfl rfl rfl⟩)
  · rintro v w ⟨r, rfl, thrown', pages', lineLength', lines', costAhead', within', setting', firstParagraph', firstLine', pageLines', beginCosts', endCosts', pageOf', rfl, hp⟩
    exact ⟨r, rfl, hp⟩

set_option maxHeartbeats 4000000 in
set_option maxRecDepth 100000 in
theorem mi_fullness (l : Launch) (D : va_G) (cA : Nat → ClassId) (h rH rL rC rP r1 r2 r3 : Nat → Nat) {S : ivS} {th : Int32} {w : va_W} (kO : OkB S.1) (k8 : S.2.2.1 ≤ 8) (hI : imI cA h rH rL rC rP r1 r2 r3 S th w) : Con l D cA yX7_fullness (wm yX7_fullness cX7_fullness 1 (some .float)) { frames := 7, cells := 0, slots := 0, locals := 162 } w [.ref (h 0)] 0 0 (PF (fun r w' => imOF cA h rH rL rC rP r1 r2 r3 S r w')) := by
  obtain ⟨d, hist, n, tx, len, eo⟩ := S
  have kO : OkB d := kO
  have k8 : n ≤ 8 := k8
  refine hI.elim (P := fun w => Con l D cA yX7_fullness (wm yX7_fullness cX7_fullness 1 (some .float)) { frames := 7, cells := 0, slots := 0, locals := 162 } w [.ref (h 0)] 0 0 (PF (fun r w' => imOF cA h rH rL rC rP r1 r2 r3 (d, hist, n, tx, len, eo) r w'))) ?_
  intro thrown textLength position error errorAt numberStart seen pages buffer draft lineLength lines costAhead within setting firstParagraph firstLine pageLines beginCosts endCosts pageOf kT e0
  have h16 := kO.p16
  refine Con.imp (conX7_fullness l D cA h rH rL rC rP r1 r2 r3 thrown (nI len) textLength position error errorAt eo (nI n) numberStart seen pages buffer d draft hist lineLength lines costAhead within setting firstParagraph firstLine pageLines beginCosts endCosts pageOf (fun r thrown' pages' lineLength' lines' costAhead' within' setting' firstParagraph' firstLine' pageLines' beginCosts' endCosts' pageOf' => imOF cA h rH rL rC rP r1 r2 r3 (d, hist, n, tx, len, eo) r (imW cA h rH rL rC rP r1 r2 r3 thrown' (nI len) textLength position error errorAt eo (nI n) numberStart seen pages' buffer d draft hist lineLength' lines' costAhead' within' setting' firstParagraph' firstLine' pageLines' beginCosts' endCosts' pageOf')) ?_) ?_
  · exact fullnessM_s kO (fun _ _ _ _ _ _ _ _ _ _ _ _ => ⟨rfl, imI.mk kT rfl rfl rfl rfl rfl⟩)
  · rintro v w ⟨r, rfl, thrown', pages', lineLength', lines', costAhead', within', setting', firstParagraph', firstLine', pageLines', beginCosts', endCosts', pageOf', rfl, hp⟩
    exact ⟨r, rfl, hp⟩

set_option maxHeartbeats 4000000 in
set_option maxRecDepth 100000 in
theorem mi_undo (l : Launch) (D : va_G) (cA : Nat → ClassId) (h rH rL rC rP r1 r2 r3 : Nat → Nat) {S : ivS} {th : Int32} {w : va_W} (kO : OkB S.1) (k8 : S.2.2.1 ≤ 8) (hI : imI cA h rH rL rC rP r1 r2 r3 S th w) : Con l D cA yX7_undo (wm yX7_undo cX7_undo 1 (some .int)) { frames := 1, cells := 0, slots := 0, locals := 22 } w [.ref (h 0)] 0 0 (PI (fun r w' => imO cA h rH rL rC rP r1 r2 r3 (s_undo S) r w')) := by
  obtain ⟨d, hist, n, tx, len, eo⟩ := S
  have kO : OkB d := kO
  have k8 : n ≤ 8 := k8
  refine hI.elim (P := fun w => Con l D cA yX7_undo (wm yX7_undo cX7_undo 1 (some .int)) { frames := 1, cells := 0, slots := 0, locals := 22 } w [.ref (h 0)] 0 0 (PI (fun r w' => imO cA h rH rL rC rP r1 r2 r3 (s_undo (d, hist, n, tx, len, eo)) r w'))) ?_
  intro thrown textLength position error errorAt numberStart seen pages buffer draft lineLength lines costAhead within setting firstParagraph firstLine pageLines beginCosts endCosts pageOf kT e0
  have h16 := kO.p16
  refine Con.imp (conX7_undo l D cA h rH rL rC rP r1 r2 r3 thrown (nI len) textLength position error errorAt eo (nI n) numberStart seen pages buffer d draft hist lineLength lines costAhead within setting firstParagraph firstLine pageLines beginCosts endCosts pageOf (fun r thrown' undoDepth' data' => imO cA h rH rL rC rP r1 r2 r3 (s_undo (d, hist, n, tx, len, eo)) r (imW cA h rH rL rC rP r1 r2 r3 thrown' (nI len) textLength position error errorAt eo undoDepth' numberStart seen pages buffer data' draft hist lineLength lines costAhead within setting firstParagraph firstLine pageLines beginCosts endCosts pageOf)) ?_) ?_
  · refine undoM_s k8 (fun h0 => ?_) (fun m hm d' he => ?_)
    · subst h0
      have e : s_undo (d, hist, 0, tx, len, eo) = rOk (d, hist, 0, tx, len, eo) (-1) := if_pos rfl
      show imO cA h rH rL rC rP r1 r2 r3 (s_undo (d, hist, 0, tx, len, eo)) _ _
      rw [e]
      exact ⟨rfl, _, ivN.rf, imI.mk kT rfl rfl rfl rfl rfl⟩
    · subst hm
      have e : s_undo (d, hist, m + 1, tx, len, eo) = (0, nI m, true, (hist m, hist, m, tx, len, eo)) := if_neg (Nat.succ_ne_zero m)
      show imO cA h rH rL rC rP r1 r2 r3 (s_undo (d, hist, m + 1, tx, len, eo)) _ _
      rw [e]
      exact ⟨rfl, (d', hist, m, tx, len, eo), ⟨(fun q => by cases q), he, fun _ _ => E5.rf _, rfl⟩, imI.mk kT rfl rfl rfl rfl rfl⟩
  · rintro v w ⟨r, rfl, thrown', undoDepth', data', rfl, hp⟩
    exact ⟨r, rfl, hp⟩

set_option maxHeartbeats 4000000 in
set_option maxRecDepth 100000 in
theorem mi_state (l : Launch) (D : va_G) (cA : Nat → ClassId) (h rH rL rC rP r1 r2 r3 : Nat → Nat) (a1 : Int32) {S : ivS} {th : Int32} {w : va_W} (kO : OkB S.1) (k8 : S.2.2.1 ≤ 8) (hI : imI cA h rH rL rC rP r1 r2 r3 S th w) : Con l D cA yX7_state (wm yX7_state cX7_state 2 (some .int)) { frames := 3, cells := 0, slots := 0, locals := 65 } w [.ref (h 0), .int a1] 0 0 (PI (fun r w' => imO cA h rH rL rC rP r1 r2 r3 (s_state S a1) r w')) := by
  obtain ⟨d, hist, n, tx, len, eo⟩ := S
  have kO : OkB d := kO
  have k8 : n ≤ 8 := k8
  refine hI.elim (P := fun w => Con l D cA yX7_state (wm yX7_state cX7_state 2 (some .int)) { frames := 3, cells := 0, slots := 0, locals := 65 } w [.ref (h 0), .int a1] 0 0 (PI (fun r w' => imO cA h rH rL rC rP r1 r2 r3 (s_state (d, hist, n, tx, len, eo) a1) r w'))) ?_
  intro thrown textLength position error errorAt numberStart seen pages buffer draft lineLength lines costAhead within setting firstParagraph firstLine pageLines beginCosts endCosts pageOf kT e0
  have h16 := kO.p16
  refine Con.imp (conX7_state l D cA h rH rL rC rP r1 r2 r3 thrown (nI len) textLength position error errorAt eo (nI n) numberStart seen pages buffer d draft hist lineLength lines costAhead within setting firstParagraph firstLine pageLines beginCosts endCosts pageOf a1 (fun r thrown' => imO cA h rH rL rC rP r1 r2 r3 (s_state (d, hist, n, tx, len, eo) a1) r (imW cA h rH rL rC rP r1 r2 r3 thrown' (nI len) textLength position error errorAt eo (nI n) numberStart seen pages buffer d draft hist lineLength lines costAhead within setting firstParagraph firstLine pageLines beginCosts endCosts pageOf)) ?_) ?_
  · refine stateM_s kO (fun w hw e1 => ?_) (fun hn => ?_)
    · subst e1
      have e : s_state (d, hist, n, tx, len, eo) (nI w) = rOk (d, hist, n, tx, len, eo) (stI d w) := by
        dsimp only [s_state]
        rw [cif_y (inR_i hw), nz_e hw (by decide)]
      show imO cA h rH rL rC rP r1 r2 r3 (s_state (d, hist, n, tx, len, eo) (nI w)) _ _
      rw [e]
      exact ⟨rfl, _, ivN.rf, imI.mk kT rfl rfl rfl rfl rfl⟩
    · have e : (s_state (d, hist, n, tx, len, eo) a1) = rNo (d, hist, n, tx, len, eo) 1 := cif_n hn
      show imO cA h rH rL rC rP r1 r2 r3 (s_state (d, hist, n, tx, len, eo) a1) _ _
      rw [e]
      exact ⟨rfl, _, ivN.rf, imI.mk kT rfl rfl rfl rfl rfl⟩
  · rintro v w ⟨r, rfl, thrown', rfl, hp⟩
    exact ⟨r, rfl, hp⟩

set_option maxHeartbeats 4000000 in
set_option maxRecDepth 100000 in
theorem mi_paragraph (l : Launch) (D : va_G) (cA : Nat → ClassId) (h rH rL rC rP r1 r2 r3 : Nat → Nat) (a1 : Int32) (a2 : Int32) {S : ivS} {th : Int32} {w : va_W} (kO : OkB S.1) (k8 : S.2.2.1 ≤ 8) (hI : imI cA h rH rL rC rP r1 r2 r3 S th w) : Con l D cA yX7_paragraph (wm yX7_paragraph cX7_paragraph 3 (some .int)) { frames := 8, cells := 0, slots := 0, locals := 184 } w [.ref (h 0), .int a1, .int a2] 0 0 (PI (fun r w' => imO cA h rH rL rC rP r1 r2 r3 (s_paragraph S a1 a2) r w')) := by
  obtain ⟨d, hist, n, tx, len, eo⟩ := S
  have kO : OkB d := kO
  have k8 : n ≤ 8 := k8
  refine hI.elim (P := fun w => Con l D cA yX7_paragraph (wm yX7_paragraph cX7_paragraph 3 (some .int)) { frames := 8, cells := 0, slots := 0, locals := 184 } w [.ref (h 0), .int a1, .int a2] 0 0 (PI (fun r w' => imO cA h rH rL rC rP r1 r2 r3 (s_paragraph (d, hist, n, tx, len, eo) a1 a2) r w'))) ?_
  intro thrown textLength position error errorAt numberStart seen pages buffer draft lineLength lines costAhead within setting firstParagraph firstLine pageLines beginCosts endCosts pageOf kT e0
  have h16 := kO.p16
  refine Con.imp (conX7_paragraph l D cA h rH rL rC rP r1 r2 r3 thrown (nI len) textLength position error errorAt eo (nI n) numberStart seen pages buffer d draft hist lineLength lines costAhead within setting firstParagraph firstLine pageLines beginCosts endCosts pageOf a1 a2 (fun r thrown' pages' lineLength' lines' costAhead' within' setting' firstParagraph' firstLine' pageLines' beginCosts' endCosts' pageOf' => imO cA h rH rL rC rP r1 r2 r3 (s_paragraph (d, hist, n, tx, len, eo) a1 a2) r (imW cA h rH rL rC rP r1 r2 r3 thrown' (nI len) textLength position error errorAt eo (nI n) numberStart seen pages' buffer d draft hist lineLength' lines' costAhead' within' setting' firstParagraph' firstLine' pageLines' beginCosts' endCosts' pageOf')) ?_) ?_
  · refine paragraphM_s kO (fun p w hp e1 hw e2 _ _ _ _ _ _ _ _ _ _ _ _ => ?_) (fun hn _ _ _ _ _ _ _ _ _ _ _ _ => ?_) (fun p hp e1 hn _ _ _ _ _ _ _ _ _ _ _ _ => ?_)
    · subst e1 e2
      have e : (s_paragraph (d, hist, n, tx, len, eo) (nI p) (nI w)) = rOk (d, hist, n, tx, len, eo) (paI d p w) := by
        dsimp only [s_paragraph]
        rw [cif_y (inR_i hp), cif_y (inR_i hw), nz_e hp (by omega), nz_e hw (by decide)]
      show imO cA h rH rL rC rP r1 r2 r3 (s_paragraph (d, hist, n, tx, len, eo) (nI p) (nI w)) _ _
      rw [e]
      exact ⟨rfl, _, ivN.rf, imI.mk kT rfl rfl rfl rfl rfl⟩
    · have e : (s_paragraph (d, hist, n, tx, len, eo) a1 a2) = rNo (d, hist, n, tx, len, eo) 1 := cif_n hn
      show imO cA h rH rL rC rP r1 r2 r3 (s_paragraph (d, hist, n, tx, len, eo) a1 a2) _ _
      rw [e]
      exact ⟨rfl, _, ivN.rf, imI.mk kT rfl rfl rfl rfl rfl⟩
    · subst e1
      have e : (s_paragraph (d, hist, n, tx, len, eo) (nI p) a2) = rNo (d, hist, n, tx, len, eo) 2 := by
        dsimp only [s_paragraph]
        rw [cif_y (inR_i hp), cif_n hn]
      show imO cA h rH rL rC rP r1 r2 r3 (s_paragraph (d, hist, n, tx, len, eo) (nI p) a2) _ _
      rw [e]
      exact ⟨rfl, _, ivN.rf, imI.mk kT rfl rfl rfl rfl rfl⟩
  · rintro v w ⟨r, rfl, thrown', pages', lineLength', lines', costAhead', within', setting', firstParagraph', firstLine', pageLines', beginCosts', endCosts', pageOf', rfl, hp⟩
    exact ⟨r, rfl, hp⟩

set_option maxHeartbeats 4000000 in
set_option maxRecDepth 100000 in
theorem mi_word (l : Launch) (D : va_G) (cA : Nat → ClassId) (h rH rL rC rP r1 r2 r3 : Nat → Nat) (a1 : Int32) (a2 : Int32) {S : ivS} {th : Int32} {w : va_W} (kO : OkB S.1) (k8 : S.2.2.1 ≤ 8) (hI : imI cA h rH rL rC rP r1 r2 r3 S th w) : Con l D cA yX7_word (wm yX7_word cX7_word 3 (some .int)) { frames := 2, cells := 0, slots := 0, locals := 43 } w [.ref (h 0), .int a1, .int a2] 0 0 (PI (fun r w' => imO cA h rH rL rC rP r1 r2 r3 (s_word S a1 a2) r w')) := by
  obtain ⟨d, hist, n, tx, len, eo⟩ := S
  have kO : OkB d := kO
  have k8 : n ≤ 8 := k8
  refine hI.elim (P := fun w => Con l D cA yX7_word (wm yX7_word cX7_word 3 (some .int)) { frames := 2, cells := 0, slots := 0, locals := 43 } w [.ref (h 0), .int a1, .int a2] 0 0 (PI (fun r w' => imO cA h rH rL rC rP r1 r2 r3 (s_word (d, hist, n, tx, len, eo) a1 a2) r w'))) ?_
  intro thrown textLength position error errorAt numberStart seen pages buffer draft lineLength lines costAhead within setting firstParagraph firstLine pageLines beginCosts endCosts pageOf kT e0
  have h16 := kO.p16
  refine Con.imp (conX7_word l D cA h rH rL rC rP r1 r2 r3 thrown (nI len) textLength position error errorAt eo (nI n) numberStart seen pages buffer d draft hist lineLength lines costAhead within setting firstParagraph firstLine pageLines beginCosts endCosts pageOf a1 a2 (fun r thrown' => imO cA h rH rL rC rP r1 r2 r3 (s_word (d, hist, n, tx, len, eo) a1 a2) r (imW cA h rH rL rC rP r1 r2 r3 thrown' (nI len) textLength position error errorAt eo (nI n) numberStart seen pages buffer d draft hist lineLength lines costAhead within setting firstParagraph firstLine pageLines beginCosts endCosts pageOf)) ?_) ?_
  · refine wordM_s kO (fun p k hp e1 hk e2 => ?_) (fun hn => ?_) (fun p hp e1 hn => ?_)
    · subst e1 e2
      have h30 := kO.n30 hp
      have e : (s_word (d, hist, n, tx, len, eo) (nI p) (nI k)) = rOk (d, hist, n, tx, len, eo) (nI (dV d p k)) := by
        dsimp only [s_word]
        rw [cif_y (inR_i hp), nz_e hp (by omega), cif_y (inR_i hk), nz_e hk (by omega)]
      show imO cA h rH rL rC rP r1 r2 r3 (s_word (d, hist, n, tx, len, eo) (nI p) (nI k)) _ _
      rw [e]
      exact ⟨rfl, _, ivN.rf, imI.mk kT rfl rfl rfl rfl rfl⟩
    · have e : (s_word (d, hist, n, tx, len, eo) a1 a2) = rNo (d, hist, n, tx, len, eo) 1 := cif_n hn
      show imO cA h rH rL rC rP r1 r2 r3 (s_word (d, hist, n, tx, len, eo) a1 a2) _ _
      rw [e]
      exact ⟨rfl, _, ivN.rf, imI.mk kT rfl rfl rfl rfl rfl⟩
    · subst e1
      have e : (s_word (d, hist, n, tx, len, eo) (nI p) a2) = rNo (d, hist, n, tx, len, eo) 2 := by
        dsimp only [s_word]
        rw [cif_y (inR_i hp), nz_e hp (by omega), cif_n hn]
      show imO cA h rH rL rC rP r1 r2 r3 (s_word (d, hist, n, tx, len, eo) (nI p) a2) _ _
      rw [e]
      exact ⟨rfl, _, ivN.rf, imI.mk kT rfl rfl rfl rfl rfl⟩
  · rintro v w ⟨r, rfl, thrown', rfl, hp⟩
    exact ⟨r, rfl, hp⟩

set_option maxHeartbeats 4000000 in
set_option maxRecDepth 100000 in
theorem mi_lineLength (l : Launch) (D : va_G) (cA : Nat → ClassId) (h rH rL rC rP r1 r2 r3 : Nat → Nat) (a1 : Int32) (a2 : Int32) (a3 : Int32) {S : ivS} {th : Int32} {w : va_W} (kO : OkB S.1) (k8 : S.2.2.1 ≤ 8) (hI : imI cA h rH rL rC rP r1 r2 r3 S th w) : Con l D cA yX7_lineLength (wm yX7_lineLength cX7_lineLength 5 (some .int)) { frames := 3, cells := 0, slots := 0, locals := 69 } w [.ref (h 0), .int a1, .int a2, .int a3] 0 0 (PI (fun r w' => imO cA h rH rL rC rP r1 r2 r3 (s_lineLength S a1 a2 a3) r w')) := by
  obtain ⟨d, hist, n, tx, len, eo⟩ := S
  have kO : OkB d := kO
  have k8 : n ≤ 8 := k8
  refine hI.elim (P := fun w => Con l D cA yX7_lineLength (wm yX7_lineLength cX7_lineLength 5 (some .int)) { frames := 3, cells := 0, slots := 0, locals := 69 } w [.ref (h 0), .int a1, .int a2, .int a3] 0 0 (PI (fun r w' => imO cA h rH rL rC rP r1 r2 r3 (s_lineLength (d, hist, n, tx, len, eo) a1 a2 a3) r w'))) ?_
  intro thrown textLength position error errorAt numberStart seen pages buffer draft lineLength lines costAhead within setting firstParagraph firstLine pageLines beginCosts endCosts pageOf kT e0
  have h16 := kO.p16
  refine Con.imp (conX7_lineLength l D cA h rH rL rC rP r1 r2 r3 thrown (nI len) textLength position error errorAt eo (nI n) numberStart seen pages buffer d draft hist lineLength lines costAhead within setting firstParagraph firstLine pageLines beginCosts endCosts pageOf a1 a2 a3 (fun r thrown' lineLength' => imO cA h rH rL rC rP r1 r2 r3 (s_lineLength (d, hist, n, tx, len, eo) a1 a2 a3) r (imW cA h rH rL rC rP r1 r2 r3 thrown' (nI len) textLength position error errorAt eo (nI n) numberStart seen pages buffer d draft hist lineLength' lines costAhead within setting firstParagraph firstLine pageLines beginCosts endCosts pageOf)) ?_) ?_
  · refine lineLengthM_s kO (fun p s k hp e1 hs e2 hk e3 _ => ?_) (fun hn _ => ?_) (fun p hp e1 hn _ => ?_) (fun p s hp e1 hs e2 hn _ => ?_)
    · subst e1 e2 e3
      have h30 := cnt_le kO hp s
      have e : (s_lineLength (d, hist, n, tx, len, eo) (nI p) (nI s) (nI k)) = rOk (d, hist, n, tx, len, eo) (nI (tln d p s k)) := by
        dsimp only [s_lineLength]
        rw [cif_y (inR_i hp), cif_y (inR_i hs), nz_e hp (by omega), nz_e hs (by decide), cif_y (inR_i hk), nz_e hk (by omega)]
      show imO cA h rH rL rC rP r1 r2 r3 (s_lineLength (d, hist, n, tx, len, eo) (nI p) (nI s) (nI k)) _ _
      rw [e]
      exact ⟨rfl, _, ivN.rf, imI.mk kT rfl rfl rfl rfl rfl⟩
    · have e : (s_lineLength (d, hist, n, tx, len, eo) a1 a2 a3) = rNo (d, hist, n, tx, len, eo) 1 := cif_n hn
      show imO cA h rH rL rC rP r1 r2 r3 (s_lineLength (d, hist, n, tx, len, eo) a1 a2 a3) _ _
      rw [e]
      exact ⟨rfl, _, ivN.rf, imI.mk kT rfl rfl rfl rfl rfl⟩
    · subst e1
      have e : (s_lineLength (d, hist, n, tx, len, eo) (nI p) a2 a3) = rNo (d, hist, n, tx, len, eo) 2 := by
        dsimp only [s_lineLength]
        rw [cif_y (inR_i hp), cif_n hn]
      show imO cA h rH rL rC rP r1 r2 r3 (s_lineLength (d, hist, n, tx, len, eo) (nI p) a2 a3) _ _
      rw [e]
      exact ⟨rfl, _, ivN.rf, imI.mk kT rfl rfl rfl rfl rfl⟩
    · subst e1 e2
      have e : (s_lineLength (d, hist, n, tx, len, eo) (nI p) (nI s) a3) = rNo (d, hist, n, tx, len, eo) 3 := by
        dsimp only [s_lineLength]
        rw [cif_y (inR_i hp), cif_y (inR_i hs), nz_e hp (by omega), nz_e hs (by decide), cif_n hn]
      show imO cA h rH rL rC rP r1 r2 r3 (s_lineLength (d, hist, n, tx, len, eo) (nI p) (nI s) a3) _ _
      rw [e]
      exact ⟨rfl, _, ivN.rf, imI.mk kT rfl rfl rfl rfl rfl⟩
  · rintro v w ⟨r, rfl, thrown', lineLength', rfl, hp⟩
    exact ⟨r, rfl, hp⟩

set_option maxHeartbeats 4000000 in
set_option maxRecDepth 100000 in
theorem mi_plan (l : Launch) (D : va_G) (cA : Nat → ClassId) (h rH rL rC rP r1 r2 r3 : Nat → Nat) (b1 : Bool) (a2 : Int32) {S : ivS} {th : Int32} {w : va_W} (kO : OkB S.1) (k8 : S.2.2.1 ≤ 8) (hI : imI cA h rH rL rC rP r1 r2 r3 S th w) : Con l D cA yX7_plan (wm yX7_plan cX7_plan 3 (some .int)) { frames := 8, cells := 0, slots := 0, locals := 183 } w [.ref (h 0), .int (bI b1), .int a2] 0 0 (PI (fun r w' => imO cA h rH rL rC rP r1 r2 r3 (s_plan S b1 a2) r w')) := by
  obtain ⟨d, hist, n, tx, len, eo⟩ := S
  have kO : OkB d := kO
  have k8 : n ≤ 8 := k8
  refine hI.elim (P := fun w => Con l D cA yX7_plan (wm yX7_plan cX7_plan 3 (some .int)) { frames := 8, cells := 0, slots := 0, locals := 183 } w [.ref (h 0), .int (bI b1), .int a2] 0 0 (PI (fun r w' => imO cA h rH rL rC rP r1 r2 r3 (s_plan (d, hist, n, tx, len, eo) b1 a2) r w'))) ?_
  intro thrown textLength position error errorAt numberStart seen pages buffer draft lineLength lines costAhead within setting firstParagraph firstLine pageLines beginCosts endCosts pageOf kT e0
  have h16 := kO.p16
  refine Con.imp (conX7_plan l D cA h rH rL rC rP r1 r2 r3 thrown (nI len) textLength position error errorAt eo (nI n) numberStart seen pages buffer d draft hist lineLength lines costAhead within setting firstParagraph firstLine pageLines beginCosts endCosts pageOf (bI b1) a2 (fun r thrown' pages' lineLength' lines' costAhead' within' setting' firstParagraph' firstLine' pageLines' beginCosts' endCosts' pageOf' => imO cA h rH rL rC rP r1 r2 r3 (s_plan (d, hist, n, tx, len, eo) b1 a2) r (imW cA h rH rL rC rP r1 r2 r3 thrown' (nI len) textLength position error errorAt eo (nI n) numberStart seen pages' buffer d draft hist lineLength' lines' costAhead' within' setting' firstParagraph' firstLine' pageLines' beginCosts' endCosts' pageOf')) ?_) ?_
  · refine planM_s b1 kO (fun w hw e2 _ _ _ _ _ _ _ _ _ _ _ _ => ?_) (fun hn _ _ _ _ _ _ _ _ _ _ _ _ => ?_)
    · subst e2
      have e : (s_plan (d, hist, n, tx, len, eo) b1 (nI w)) = rOk (d, hist, n, tx, len, eo) (nI (numP d (plQ d b1) (plS d b1) w)) := by
        dsimp only [s_plan]
        rw [cif_y (inR_i hw), nz_e hw (by decide)]
      show imO cA h rH rL rC rP r1 r2 r3 (s_plan (d, hist, n, tx, len, eo) b1 (nI w)) _ _
      rw [e]
      exact ⟨rfl, _, ivN.rf, imI.mk kT rfl rfl rfl rfl rfl⟩
    · have e : (s_plan (d, hist, n, tx, len, eo) b1 a2) = rNo (d, hist, n, tx, len, eo) 1 := cif_n hn
      show imO cA h rH rL rC rP r1 r2 r3 (s_plan (d, hist, n, tx, len, eo) b1 a2) _ _
      rw [e]
      exact ⟨rfl, _, ivN.rf, imI.mk kT rfl rfl rfl rfl rfl⟩
  · rintro v w ⟨r, rfl, thrown', pages', lineLength', lines', costAhead', within', setting', firstParagraph', firstLine', pageLines', beginCosts', endCosts', pageOf', rfl, hp⟩
    exact ⟨r, rfl, hp⟩

set_option maxHeartbeats 4000000 in
set_option maxRecDepth 100000 in
theorem mi_page (l : Launch) (D : va_G) (cA : Nat → ClassId) (h rH rL rC rP r1 r2 r3 : Nat → Nat) (b1 : Bool) (a2 : Int32) (a3 : Int32) {S : ivS} {th : Int32} {w : va_W} (kO : OkB S.1) (k8 : S.2.2.1 ≤ 8) (hI : imI cA h rH rL rC rP r1 r2 r3 S th w) : Con l D cA yX7_page (wm yX7_page cX7_page 4 (some .int)) { frames := 8, cells := 0, slots := 0, locals := 183 } w [.ref (h 0), .int (bI b1), .int a2, .int a3] 0 0 (PI (fun r w' => imO cA h rH rL rC rP r1 r2 r3 (s_page S b1 a2 a3) r w')) := by
  obtain ⟨d, hist, n, tx, len, eo⟩ := S
  have kO : OkB d := kO
  have k8 : n ≤ 8 := k8
  refine hI.elim (P := fun w => Con l D cA yX7_page (wm yX7_page cX7_page 4 (some .int)) { frames := 8, cells := 0, slots := 0, locals := 183 } w [.ref (h 0), .int (bI b1), .int a2, .int a3] 0 0 (PI (fun r w' => imO cA h rH rL rC rP r1 r2 r3 (s_page (d, hist, n, tx, len, eo) b1 a2 a3) r w'))) ?_
  intro thrown textLength position error errorAt numberStart seen pages buffer draft lineLength lines costAhead within setting firstParagraph firstLine pageLines beginCosts endCosts pageOf kT e0
  have h16 := kO.p16
  refine Con.imp (conX7_page l D cA h rH rL rC rP r1 r2 r3 thrown (nI len) textLength position error errorAt eo (nI n) numberStart seen pages buffer d draft hist lineLength lines costAhead within setting firstParagraph firstLine pageLines beginCosts endCosts pageOf (bI b1) a2 a3 (fun r thrown' pages' lineLength' lines' costAhead' within' setting' firstParagraph' firstLine' pageLines' beginCosts' endCosts' pageOf' => imO cA h rH rL rC rP r1 r2 r3 (s_page (d, hist, n, tx, len, eo) b1 a2 a3) r (imW cA h rH rL rC rP r1 r2 r3 thrown' (nI len) textLength position error errorAt eo (nI n) numberStart seen pages' buffer d draft hist lineLength' lines' costAhead' within' setting' firstParagraph' firstLine' pageLines' beginCosts' endCosts' pageOf')) ?_) ?_
  · refine pageM_s b1 kO (fun k w hk e2 hw e3 _ _ _ _ _ _ _ _ _ _ _ _ => ?_) (fun hn _ _ _ _ _ _ _ _ _ _ _ _ => ?_) (fun k hk e2 hn _ _ _ _ _ _ _ _ _ _ _ _ => ?_)
    · subst e2 e3
      have hq := plQ_480 kO b1
      have e : (s_page (d, hist, n, tx, len, eo) b1 (nI k) (nI w)) = rOk (d, hist, n, tx, len, eo) (nI (pgN d (plQ d b1) (fun p => cnt d p (plS d b1 p)) k w)) := by
        dsimp only [s_page]
        rw [cif_y (inR_i hk), cif_y (inR_i hw), nz_e hk (by omega), nz_e hw (by decide)]
      show imO cA h rH rL rC rP r1 r2 r3 (s_page (d, hist, n, tx, len, eo) b1 (nI k) (nI w)) _ _
      rw [e]
      exact ⟨rfl, _, ivN.rf, imI.mk kT rfl rfl rfl rfl rfl⟩
    · have e : (s_page (d, hist, n, tx, len, eo) b1 a2 a3) = rNo (d, hist, n, tx, len, eo) 1 := cif_n hn
      show imO cA h rH rL rC rP r1 r2 r3 (s_page (d, hist, n, tx, len, eo) b1 a2 a3) _ _
      rw [e]
      exact ⟨rfl, _, ivN.rf, imI.mk kT rfl rfl rfl rfl rfl⟩
    · subst e2
      have e : (s_page (d, hist, n, tx, len, eo) b1 (nI k) a3) = rNo (d, hist, n, tx, len, eo) 2 := by
        dsimp only [s_page]
        rw [cif_y (inR_i hk), cif_n hn]
      show imO cA h rH rL rC rP r1 r2 r3 (s_page (d, hist, n, tx, len, eo) b1 (nI k) a3) _ _
      rw [e]
      exact ⟨rfl, _, ivN.rf, imI.mk kT rfl rfl rfl rfl rfl⟩
  · rintro v w ⟨r, rfl, thrown', pages', lineLength', lines', costAhead', within', setting', firstParagraph', firstLine', pageLines', beginCosts', endCosts', pageOf', rfl, hp⟩
    exact ⟨r, rfl, hp⟩

set_option maxHeartbeats 4000000 in
set_option maxRecDepth 100000 in
theorem mi_pageOf (l : Launch) (D : va_G) (cA : Nat → ClassId) (h rH rL rC rP r1 r2 r3 : Nat → Nat) (b1 : Bool) (a2 : Int32) (a3 : Int32) {S : ivS} {th : Int32} {w : va_W} (kO : OkB S.1) (k8 : S.2.2.1 ≤ 8) (hI : imI cA h rH rL rC rP r1 r2 r3 S th w) : Con l D cA yX7_pageOf (wm yX7_pageOf cX7_pageOf 4 (some .int)) { frames := 8, cells := 0, slots := 0, locals := 183 } w [.ref (h 0), .int (bI b1), .int a2, .int a3] 0 0 (PI (fun r w' => imO cA h rH rL rC rP r1 r2 r3 (s_pageOf S b1 a2 a3) r w')) := by
  obtain ⟨d, hist, n, tx, len, eo⟩ := S
  have kO : OkB d := kO
  have k8 : n ≤ 8 := k8
  refine hI.elim (P := fun w => Con l D cA yX7_pageOf (wm yX7_pageOf cX7_pageOf 4 (some .int)) { frames := 8, cells := 0, slots := 0, locals := 183 } w [.ref (h 0), .int (bI b1), .int a2, .int a3] 0 0 (PI (fun r w' => imO cA h rH rL rC rP r1 r2 r3 (s_pageOf (d, hist, n, tx, len, eo) b1 a2 a3) r w'))) ?_
  intro thrown textLength position error errorAt numberStart seen pages buffer draft lineLength lines costAhead within setting firstParagraph firstLine pageLines beginCosts endCosts pageOf kT e0
  have h16 := kO.p16
  refine Con.imp (conX7_pageOf l D cA h rH rL rC rP r1 r2 r3 thrown (nI len) textLength position error errorAt eo (nI n) numberStart seen pages buffer d draft hist lineLength lines costAhead within setting firstParagraph firstLine pageLines beginCosts endCosts pageOf (bI b1) a2 a3 (fun r thrown' pages' lineLength' lines' costAhead' within' setting' firstParagraph' firstLine' pageLines' beginCosts' endCosts' pageOf' => imO cA h rH rL rC rP r1 r2 r3 (s_pageOf (d, hist, n, tx, len, eo) b1 a2 a3) r (imW cA h rH rL rC rP r1 r2 r3 thrown' (nI len) textLength position error errorAt eo (nI n) numberStart seen pages' buffer d draft hist lineLength' lines' costAhead' within' setting' firstParagraph' firstLine' pageLines' beginCosts' endCosts' pageOf')) ?_) ?_
  · refine pageOfM_s b1 kO (fun p k hp e2 hk e3 _ _ _ _ _ _ _ _ _ _ _ _ => ?_) (fun hn _ _ _ _ _ _ _ _ _ _ _ _ => ?_) (fun p hp e2 hn _ _ _ _ _ _ _ _ _ _ _ _ => ?_)
    · subst e2 e3
      have h30 := cnt_le kO hp (plS d b1 p)
      have e : (s_pageOf (d, hist, n, tx, len, eo) b1 (nI p) (nI k)) = rOk (d, hist, n, tx, len, eo) (nI (pgW (plQ d b1) p k (plQ d b1).1)) := by
        dsimp only [s_pageOf]
        rw [cif_y (inR_i hp), nz_e hp (by omega), cif_y (inR_i hk), nz_e hk (by omega)]
      show imO cA h rH rL rC rP r1 r2 r3 (s_pageOf (d, hist, n, tx, len, eo) b1 (nI p) (nI k)) _ _
      rw [e]
      exact ⟨rfl, _, ivN.rf, imI.mk kT rfl rfl rfl rfl rfl⟩
    · have e : (s_pageOf (d, hist, n, tx, len, eo) b1 a2 a3) = rNo (d, hist, n, tx, len, eo) 1 := cif_n hn
      show imO cA h rH rL rC rP r1 r2 r3 (s_pageOf (d, hist, n, tx, len, eo) b1 a2 a3) _ _
      rw [e]
      exact ⟨rfl, _, ivN.rf, imI.mk kT rfl rfl rfl rfl rfl⟩
    · subst e2
      have e : (s_pageOf (d, hist, n, tx, len, eo) b1 (nI p) a3) = rNo (d, hist, n, tx, len, eo) 2 := by
        dsimp only [s_pageOf]
        rw [cif_y (inR_i hp), nz_e hp (by omega), cif_n hn]
      show imO cA h rH rL rC rP r1 r2 r3 (s_pageOf (d, hist, n, tx, len, eo) b1 (nI p) a3) _ _
      rw [e]
      exact ⟨rfl, _, ivN.rf, imI.mk kT rfl rfl rfl rfl rfl⟩
  · rintro v w ⟨r, rfl, thrown', pages', lineLength', lines', costAhead', within', setting', firstParagraph', firstLine', pageLines', beginCosts', endCosts', pageOf', rfl, hp⟩
    exact ⟨r, rfl, hp⟩

set_option maxHeartbeats 4000000 in
set_option maxRecDepth 100000 in
theorem mi_help (l : Launch) (D : va_G) (cA : Nat → ClassId) (h rH rL rC rP r1 r2 r3 : Nat → Nat) (a1 : Int32) {S : ivS} {th : Int32} {w : va_W} (kO : OkB S.1) (k8 : S.2.2.1 ≤ 8) (hI : imI cA h rH rL rC rP r1 r2 r3 S th w) : Con l D cA yX7_help (wm yX7_help cX7_help 5 (some .int)) { frames := 7, cells := 0, slots := 0, locals := 156 } w [.ref (h 0), .int a1] 0 0 (PI (fun r w' => imO cA h rH rL rC rP r1 r2 r3 (s_help S a1) r w')) := by
  obtain ⟨d, hist, n, tx, len, eo⟩ := S
  have kO : OkB d := kO
  have k8 : n ≤ 8 := k8
  refine hI.elim (P := fun w => Con l D cA yX7_help (wm yX7_help cX7_help 5 (some .int)) { frames := 7, cells := 0, slots := 0, locals := 156 } w [.ref (h 0), .int a1] 0 0 (PI (fun r w' => imO cA h rH rL rC rP r1 r2 r3 (s_help (d, hist, n, tx, len, eo) a1) r w'))) ?_
  intro thrown textLength position error errorAt numberStart seen pages buffer draft lineLength lines costAhead within setting firstParagraph firstLine pageLines beginCosts endCosts pageOf kT e0
  have h16 := kO.p16
  refine Con.imp (conX7_help l D cA h rH rL rC rP r1 r2 r3 thrown (nI len) textLength position error errorAt eo (nI n) numberStart seen pages buffer d draft hist lineLength lines costAhead within setting firstParagraph firstLine pageLines beginCosts endCosts pageOf a1 (fun r thrown' pages' lineLength' lines' setting' firstParagraph' firstLine' pageLines' beginCosts' endCosts' pageOf' => imO cA h rH rL rC rP r1 r2 r3 (s_help (d, hist, n, tx, len, eo) a1) r (imW cA h rH rL rC rP r1 r2 r3 thrown' (nI len) textLength position error errorAt eo (nI n) numberStart seen pages' buffer d draft hist lineLength' lines' costAhead within setting' firstParagraph' firstLine' pageLines' beginCosts' endCosts' pageOf')) ?_) ?_
  · refine helpM_s kO (fun k hk e1 _ _ _ _ _ _ _ _ _ _ => ?_) (fun hn _ _ _ _ _ _ _ _ _ _ => ?_)
    · subst e1
      have hq : (lyP d sg0 (dP d)).1 ≤ 480 := plQ_480 kO false
      have e : (s_help (d, hist, n, tx, len, eo) (nI k)) = rOk (d, hist, n, tx, len, eo) (helpS d k) := by
        dsimp only [s_help]
        rw [cif_y (inR_i hk), nz_e hk (by omega)]
      show imO cA h rH rL rC rP r1 r2 r3 (s_help (d, hist, n, tx, len, eo) (nI k)) _ _
      rw [e]
      exact ⟨rfl, _, ivN.rf, imI.mk kT rfl rfl rfl rfl rfl⟩
    · have e : (s_help (d, hist, n, tx, len, eo) a1) = rNo (d, hist, n, tx, len, eo) 1 := cif_n hn
      show imO cA h rH rL rC rP r1 r2 r3 (s_help (d, hist, n, tx, len, eo) a1) _ _
      rw [e]
      exact ⟨rfl, _, ivN.rf, imI.mk kT rfl rfl rfl rfl rfl⟩
  · rintro v w ⟨r, rfl, thrown', pages', lineLength', lines', setting', firstParagraph', firstLine', pageLines', beginCosts', endCosts', pageOf', rfl, hp⟩
    exact ⟨r, rfl, hp⟩

set_option maxHeartbeats 4000000 in
set_option maxRecDepth 100000 in
theorem mi_fix (l : Launch) (D : va_G) (cA : Nat → ClassId) (h rH rL rC rP r1 r2 r3 : Nat → Nat) (a1 : Int32) (a2 : Int32) {S : ivS} {th : Int32} {w : va_W} (kO : OkB S.1) (k8 : S.2.2.1 ≤ 8) (hI : imI cA h rH rL rC rP r1 r2 r3 S th w) : Con l D cA yX7_fix (wm yX7_fix cX7_fix 3 (some .int)) { frames := 3, cells := 0, slots := 0, locals := 66 } w [.ref (h 0), .int a1, .int a2] 0 0 (PI (fun r w' => imO cA h rH rL rC rP r1 r2 r3 (s_fix S a1 a2) r w')) := by
  obtain ⟨d, hist, n, tx, len, eo⟩ := S
  have kO : OkB d := kO
  have k8 : n ≤ 8 := k8
  refine hI.elim (P := fun w => Con l D cA yX7_fix (wm yX7_fix cX7_fix 3 (some .int)) { frames := 3, cells := 0, slots := 0, locals := 66 } w [.ref (h 0), .int a1, .int a2] 0 0 (PI (fun r w' => imO cA h rH rL rC rP r1 r2 r3 (s_fix (d, hist, n, tx, len, eo) a1 a2) r w'))) ?_
  intro thrown textLength position error errorAt numberStart seen pages buffer draft lineLength lines costAhead within setting firstParagraph firstLine pageLines beginCosts endCosts pageOf kT e0
  have h16 := kO.p16
  refine Con.imp (conX7_fix l D cA h rH rL rC rP r1 r2 r3 thrown (nI len) textLength position error errorAt eo (nI n) numberStart seen pages buffer d draft hist lineLength lines costAhead within setting firstParagraph firstLine pageLines beginCosts endCosts pageOf a1 a2 (fun r thrown' undoDepth' data' history' => imO cA h rH rL rC rP r1 r2 r3 (s_fix (d, hist, n, tx, len, eo) a1 a2) r (imW cA h rH rL rC rP r1 r2 r3 thrown' (nI len) textLength position error errorAt eo undoDepth' numberStart seen pages buffer data' draft history' lineLength lines costAhead within setting firstParagraph firstLine pageLines beginCosts endCosts pageOf)) ?_) ?_
  · refine fixM_s kO k8 (fun p hp e1 hF hist' he => ?_) (fun hn => ?_) (fun p hp e1 hn => ?_)
    · subst e1
      have e : (s_fix (d, hist, n, tx, len, eo) (nI p) a2) = rEd (d, hist, n, tx, len, eo) (dF d p) (upd d (11 + 34 * p + 2) a2) := by
        dsimp only [s_fix]
        rw [cif_y (inR_i hp), cif_y hF, nz_e hp (by omega)]
      show imO cA h rH rL rC rP r1 r2 r3 (s_fix (d, hist, n, tx, len, eo) (nI p) a2) _ _
      rw [e]
      exact ⟨rfl, (_, hist', _, tx, len, eo), ⟨(fun q => by cases q), E5.rf _, he, rfl⟩, imI.mk kT rfl rfl rfl rfl rfl⟩
    · have e : (s_fix (d, hist, n, tx, len, eo) a1 a2) = rNo (d, hist, n, tx, len, eo) 1 := cif_n hn
      show imO cA h rH rL rC rP r1 r2 r3 (s_fix (d, hist, n, tx, len, eo) a1 a2) _ _
      rw [e]
      exact ⟨rfl, _, ivN.rf, imI.mk kT rfl rfl rfl rfl rfl⟩
    · subst e1
      have e : (s_fix (d, hist, n, tx, len, eo) (nI p) a2) = rNo (d, hist, n, tx, len, eo) 2 := by
        dsimp only [s_fix]
        rw [cif_y (inR_i hp), cif_n hn]
      show imO cA h rH rL rC rP r1 r2 r3 (s_fix (d, hist, n, tx, len, eo) (nI p) a2) _ _
      rw [e]
      exact ⟨rfl, _, ivN.rf, imI.mk kT rfl rfl rfl rfl rfl⟩
  · rintro v w ⟨r, rfl, thrown', undoDepth', data', history', rfl, hp⟩
    exact ⟨r, rfl, hp⟩

set_option maxHeartbeats 4000000 in
set_option maxRecDepth 100000 in
theorem mi_begin (l : Launch) (D : va_G) (cA : Nat → ClassId) (h rH rL rC rP r1 r2 r3 : Nat → Nat) (a1 : Int32) (b2 : Bool) {S : ivS} {th : Int32} {w : va_W} (kO : OkB S.1) (k8 : S.2.2.1 ≤ 8) (hI : imI cA h rH rL rC rP r1 r2 r3 S th w) : Con l D cA yX7_begin (wm yX7_begin cX7_begin 3 (some .boolean)) { frames := 3, cells := 0, slots := 0, locals := 66 } w [.ref (h 0), .int a1, .int (bI b2)] 0 0 (PI (fun r w' => imO cA h rH rL rC rP r1 r2 r3 (s_begin S a1 b2) r w')) := by
  obtain ⟨d, hist, n, tx, len, eo⟩ := S
  have kO : OkB d := kO
  have k8 : n ≤ 8 := k8
  refine hI.elim (P := fun w => Con l D cA yX7_begin (wm yX7_begin cX7_begin 3 (some .boolean)) { frames := 3, cells := 0, slots := 0, locals := 66 } w [.ref (h 0), .int a1, .int (bI b2)] 0 0 (PI (fun r w' => imO cA h rH rL rC rP r1 r2 r3 (s_begin (d, hist, n, tx, len, eo) a1 b2) r w'))) ?_
  intro thrown textLength position error errorAt numberStart seen pages buffer draft lineLength lines costAhead within setting firstParagraph firstLine pageLines beginCosts endCosts pageOf kT e0
  have h16 := kO.p16
  refine Con.imp (conX7_begin l D cA h rH rL rC rP r1 r2 r3 thrown (nI len) textLength position error errorAt eo (nI n) numberStart seen pages buffer d draft hist lineLength lines costAhead within setting firstParagraph firstLine pageLines beginCosts endCosts pageOf a1 (bI b2) (fun r thrown' undoDepth' data' history' => imO cA h rH rL rC rP r1 r2 r3 (s_begin (d, hist, n, tx, len, eo) a1 b2) r (imW cA h rH rL rC rP r1 r2 r3 thrown' (nI len) textLength position error errorAt eo undoDepth' numberStart seen pages buffer data' draft history' lineLength lines costAhead within setting firstParagraph firstLine pageLines beginCosts endCosts pageOf)) ?_) ?_
  · refine beginM_s b2 kO k8 (fun p hp e1 hist' he => ?_) (fun hn => ?_)
    · subst e1
      have e : (s_begin (d, hist, n, tx, len, eo) (nI p) b2) = rEd (d, hist, n, tx, len, eo) (bI (dB d p)) (upd d (11 + 34 * p + 1) (bI b2)) := by
        dsimp only [s_begin]
        rw [cif_y (inR_i hp), nz_e hp (by omega)]
      show imO cA h rH rL rC rP r1 r2 r3 (s_begin (d, hist, n, tx, len, eo) (nI p) b2) _ _
      rw [e]
      exact ⟨rfl, (_, hist', _, tx, len, eo), ⟨(fun q => by cases q), E5.rf _, he, rfl⟩, imI.mk kT rfl rfl rfl rfl rfl⟩
    · have e : (s_begin (d, hist, n, tx, len, eo) a1 b2) = rNo (d, hist, n, tx, len, eo) 1 := cif_n hn
      show imO cA h rH rL rC rP r1 r2 r3 (s_begin (d, hist, n, tx, len, eo) a1 b2) _ _
      rw [e]
      exact ⟨rfl, _, ivN.rf, imI.mk kT rfl rfl rfl rfl rfl⟩
  · rintro v w ⟨r, rfl, thrown', undoDepth', data', history', rfl, hp⟩
    exact ⟨r, rfl, hp⟩

set_option maxHeartbeats 4000000 in
set_option maxRecDepth 100000 in
theorem mi_insert (l : Launch) (D : va_G) (cA : Nat → ClassId) (h rH rL rC rP r1 r2 r3 : Nat → Nat) (a1 : Int32) (a2 : Int32) (a3 : Int32) {S : ivS} {th : Int32} {w : va_W} (kO : OkB S.1) (k8 : S.2.2.1 ≤ 8) (hI : imI cA h rH rL rC rP r1 r2 r3 S th w) : Con l D cA yX7_insert (wm yX7_insert cX7_insert 6 (some .int)) { frames := 2, cells := 0, slots := 0, locals := 44 } w [.ref (h 0), .int a1, .int a2, .int a3] 0 0 (PI (fun r w' => imO cA h rH rL rC rP r1 r2 r3 (s_insert S a1 a2 a3) r w')) := by
  obtain ⟨d, hist, n, tx, len, eo⟩ := S
  have kO : OkB d := kO
  have k8 : n ≤ 8 := k8
  refine hI.elim (P := fun w => Con l D cA yX7_insert (wm yX7_insert cX7_insert 6 (some .int)) { frames := 2, cells := 0, slots := 0, locals := 44 } w [.ref (h 0), .int a1, .int a2, .int a3] 0 0 (PI (fun r w' => imO cA h rH rL rC rP r1 r2 r3 (s_insert (d, hist, n, tx, len, eo) a1 a2 a3) r w'))) ?_
  intro thrown textLength position error errorAt numberStart seen pages buffer draft lineLength lines costAhead within setting firstParagraph firstLine pageLines beginCosts endCosts pageOf kT e0
  have h16 := kO.p16
  refine Con.imp (conX7_insert l D cA h rH rL rC rP r1 r2 r3 thrown (nI len) textLength position error errorAt eo (nI n) numberStart seen pages buffer d draft hist lineLength lines costAhead within setting firstParagraph firstLine pageLines beginCosts endCosts pageOf a1 a2 a3 (fun r thrown' undoDepth' data' history' => imO cA h rH rL rC rP r1 r2 r3 (s_insert (d, hist, n, tx, len, eo) a1 a2 a3) r (imW cA h rH rL rC rP r1 r2 r3 thrown' (nI len) textLength position error errorAt eo undoDepth' numberStart seen pages buffer data' draft history' lineLength lines costAhead within setting firstParagraph firstLine pageLines beginCosts endCosts pageOf)) ?_) ?_
  · refine insertM_s kO k8 (fun at_ w l ha e1 h1 h2 e2 h3 h4 e3 hP16 hist' he => ?_) (fun hn => ?_) (fun hn hn2 => ?_)
    · subst e1 e2 e3
      have h60 := kO.w60
      have e : (s_insert (d, hist, n, tx, len, eo) (nI at_) (nI w) (nI l)) = rEd (d, hist, n, tx, len, eo) (nI (dP d + 1)) (insD d at_ w l) := by
        dsimp only [s_insert]
        rw [cif_y (P := okIns d (nI at_) (nI w) (nI l)) ⟨⟨at_, by omega, rfl⟩, ⟨w, h1, h2, rfl⟩, l, h3, h4, rfl⟩, if_neg (by omega), nz_nI (show at_ < 2 ^ 31 by omega), nz_nI (show w < 2 ^ 31 by omega), nz_nI (show l < 2 ^ 31 by omega)]
      show imO cA h rH rL rC rP r1 r2 r3 (s_insert (d, hist, n, tx, len, eo) (nI at_) (nI w) (nI l)) _ _
      rw [e]
      exact ⟨rfl, (_, hist', _, tx, len, eo), ⟨(fun q => by cases q), E5.rf _, he, rfl⟩, imI.mk kT rfl rfl rfl rfl rfl⟩
    · have e : (s_insert (d, hist, n, tx, len, eo) a1 a2 a3) = rNo (d, hist, n, tx, len, eo) 1 := cif_n hn
      show imO cA h rH rL rC rP r1 r2 r3 (s_insert (d, hist, n, tx, len, eo) a1 a2 a3) _ _
      rw [e]
      exact ⟨rfl, _, ivN.rf, imI.mk kT rfl rfl rfl rfl rfl⟩
    · have e : (s_insert (d, hist, n, tx, len, eo) a1 a2 a3) = rNo (d, hist, n, tx, len, eo) 2 := by
        dsimp only [s_insert]
        rw [cif_y hn, if_pos hn2]
      show imO cA h rH rL rC rP r1 r2 r3 (s_insert (d, hist, n, tx, len, eo) a1 a2 a3) _ _
      rw [e]
      exact ⟨rfl, _, ivN.rf, imI.mk kT rfl rfl rfl rfl rfl⟩
  · rintro v w ⟨r, rfl, thrown', undoDepth', data', history', rfl, hp⟩
    exact ⟨r, rfl, hp⟩

set_option maxHeartbeats 4000000 in
set_option maxRecDepth 100000 in
theorem mi_remove (l : Launch) (D : va_G) (cA : Nat → ClassId) (h rH rL rC rP r1 r2 r3 : Nat → Nat) (a1 : Int32) {S : ivS} {th : Int32} {w : va_W} (kO : OkB S.1) (k8 : S.2.2.1 ≤ 8) (hI : imI cA h rH rL rC rP r1 r2 r3 S th w) : Con l D cA yX7_remove (wm yX7_remove cX7_remove 4 (some .int)) { frames := 2, cells := 0, slots := 0, locals := 43 } w [.ref (h 0), .int a1] 0 0 (PI (fun r w' => imO cA h rH rL rC rP r1 r2 r3 (s_remove S a1) r w')) := by
  obtain ⟨d, hist, n, tx, len, eo⟩ := S
  have kO : OkB d := kO
  have k8 : n ≤ 8 := k8
  refine hI.elim (P := fun w => Con l D cA yX7_remove (wm yX7_remove cX7_remove 4 (some .int)) { frames := 2, cells := 0, slots := 0, locals := 43 } w [.ref (h 0), .int a1] 0 0 (PI (fun r w' => imO cA h rH rL rC rP r1 r2 r3 (s_remove (d, hist, n, tx, len, eo) a1) r w'))) ?_
  intro thrown textLength position error errorAt numberStart seen pages buffer draft lineLength lines costAhead within setting firstParagraph firstLine pageLines beginCosts endCosts pageOf kT e0
  have h16 := kO.p16
  refine Con.imp (conX7_remove l D cA h rH rL rC rP r1 r2 r3 thrown (nI len) textLength position error errorAt eo (nI n) numberStart seen pages buffer d draft hist lineLength lines costAhead within setting firstParagraph firstLine pageLines beginCosts endCosts pageOf a1 (fun r thrown' undoDepth' data' history' => imO cA h rH rL rC rP r1 r2 r3 (s_remove (d, hist, n, tx, len, eo) a1) r (imW cA h rH rL rC rP r1 r2 r3 thrown' (nI len) textLength position error errorAt eo undoDepth' numberStart seen pages buffer data' draft history' lineLength lines costAhead within setting firstParagraph firstLine pageLines beginCosts endCosts pageOf)) ?_) ?_
  · refine removeM_s kO k8 (fun p hp e1 hist' he => ?_) (fun hn => ?_)
    · subst e1
      have e : (s_remove (d, hist, n, tx, len, eo) (nI p)) = rEd (d, hist, n, tx, len, eo) (nI (dN d p)) (rmD d p) := by
        dsimp only [s_remove]
        rw [cif_y (inR_i hp), nz_e hp (by omega)]
      show imO cA h rH rL rC rP r1 r2 r3 (s_remove (d, hist, n, tx, len, eo) (nI p)) _ _
      rw [e]
      exact ⟨rfl, (_, hist', _, tx, len, eo), ⟨(fun q => by cases q), E5.rf _, he, rfl⟩, imI.mk kT rfl rfl rfl rfl rfl⟩
    · have e : (s_remove (d, hist, n, tx, len, eo) a1) = rNo (d, hist, n, tx, len, eo) 1 := cif_n hn
      show imO cA h rH rL rC rP r1 r2 r3 (s_remove (d, hist, n, tx, len, eo) a1) _ _
      rw [e]
      exact ⟨rfl, _, ivN.rf, imI.mk kT rfl rfl rfl rfl rfl⟩
  · rintro v w ⟨r, rfl, thrown', undoDepth', data', history', rfl, hp⟩
    exact ⟨r, rfl, hp⟩

set_option maxHeartbeats 4000000 in
set_option maxRecDepth 100000 in
theorem mi_retouch (l : Launch) (D : va_G) (cA : Nat → ClassId) (h rH rL rC rP r1 r2 r3 : Nat → Nat) (a1 : Int32) (a2 : Int32) (a3 : Int32) {S : ivS} {th : Int32} {w : va_W} (kO : OkB S.1) (k8 : S.2.2.1 ≤ 8) (hI : imI cA h rH rL rC rP r1 r2 r3 S th w) : Con l D cA yX7_retouch (wm yX7_retouch cX7_retouch 7 (some .int)) { frames := 3, cells := 0, slots := 0, locals := 69 } w [.ref (h 0), .int a1, .int a2, .int a3] 0 0 (PI (fun r w' => imO cA h rH rL rC rP r1 r2 r3 (s_retouch S a1 a2 a3) r w')) := by
  obtain ⟨d, hist, n, tx, len, eo⟩ := S
  have kO : OkB d := kO
  have k8 : n ≤ 8 := k8
  refine hI.elim (P := fun w => Con l D cA yX7_retouch (wm yX7_retouch cX7_retouch 7 (some .int)) { frames := 3, cells := 0, slots := 0, locals := 69 } w [.ref (h 0), .int a1, .int a2, .int a3] 0 0 (PI (fun r w' => imO cA h rH rL rC rP r1 r2 r3 (s_retouch (d, hist, n, tx, len, eo) a1 a2 a3) r w'))) ?_
  intro thrown textLength position error errorAt numberStart seen pages buffer draft lineLength lines costAhead within setting firstParagraph firstLine pageLines beginCosts endCosts pageOf kT e0
  have h16 := kO.p16
  refine Con.imp (conX7_retouch l D cA h rH rL rC rP r1 r2 r3 thrown (nI len) textLength position error errorAt eo (nI n) numberStart seen pages buffer d draft hist lineLength lines costAhead within setting firstParagraph firstLine pageLines beginCosts endCosts pageOf a1 a2 a3 (fun r thrown' undoDepth' data' history' lineLength' => imO cA h rH rL rC rP r1 r2 r3 (s_retouch (d, hist, n, tx, len, eo) a1 a2 a3) r (imW cA h rH rL rC rP r1 r2 r3 thrown' (nI len) textLength position error errorAt eo undoDepth' numberStart seen pages buffer data' draft history' lineLength' lines costAhead within setting firstParagraph firstLine pageLines beginCosts endCosts pageOf)) ?_) ?_
  · refine retouchM_s kO k8 (fun p k l hp e1 hk e2 hl e3 h0 hb hist' _ he => ?_) (fun hn _ => ?_) (fun p hp e1 hn _ => ?_) (fun p k l hp e1 hk e2 hl e3 h0 hb _ => ?_)
    · subst e1 e2 e3
      have h60 := kO.w60
      have h30 := kO.n30 hp
      have e : (s_retouch (d, hist, n, tx, len, eo) (nI p) (nI k) (nI l)) = rEd (d, hist, n, tx, len, eo) (nI (cnt (retD d p k l) p 0)) (retD d p k l) := by
        dsimp only [s_retouch]
        rw [cif_y (inR_i hp), nz_nI (show p < 2 ^ 31 by omega), cif_y (P := okRet d p (nI k) (nI l)) ⟨k, l, hk, rfl, hl, rfl, h0⟩, nz_nI (show k < 2 ^ 31 by omega), nz_nI (show l < 2 ^ 31 by omega), cif_n hb]
      show imO cA h rH rL rC rP r1 r2 r3 (s_retouch (d, hist, n, tx, len, eo) (nI p) (nI k) (nI l)) _ _
      rw [e]
      exact ⟨rfl, (_, hist', _, tx, len, eo), ⟨(fun q => by cases q), E5.rf _, he, rfl⟩, imI.mk kT rfl rfl rfl rfl rfl⟩
    · have e : (s_retouch (d, hist, n, tx, len, eo) a1 a2 a3) = rNo (d, hist, n, tx, len, eo) 1 := cif_n hn
      show imO cA h rH rL rC rP r1 r2 r3 (s_retouch (d, hist, n, tx, len, eo) a1 a2 a3) _ _
      rw [e]
      exact ⟨rfl, _, ivN.rf, imI.mk kT rfl rfl rfl rfl rfl⟩
    · subst e1
      have e : (s_retouch (d, hist, n, tx, len, eo) (nI p) a2 a3) = rNo (d, hist, n, tx, len, eo) 2 := by
        dsimp only [s_retouch]
        rw [cif_y (inR_i hp), nz_nI (show p < 2 ^ 31 by omega), cif_n hn]
      show imO cA h rH rL rC rP r1 r2 r3 (s_retouch (d, hist, n, tx, len, eo) (nI p) a2 a3) _ _
      rw [e]
      exact ⟨rfl, _, ivN.rf, imI.mk kT rfl rfl rfl rfl rfl⟩
    · subst e1 e2 e3
      have h60 := kO.w60
      have h30 := kO.n30 hp
      have e : (s_retouch (d, hist, n, tx, len, eo) (nI p) (nI k) (nI l)) = rNo (d, hist, n, tx, len, eo) 3 := by
        dsimp only [s_retouch]
        rw [cif_y (inR_i hp), nz_nI (show p < 2 ^ 31 by omega), cif_y (P := okRet d p (nI k) (nI l)) ⟨k, l, hk, rfl, hl, rfl, h0⟩, nz_nI (show k < 2 ^ 31 by omega), nz_nI (show l < 2 ^ 31 by omega), cif_y hb]
      show imO cA h rH rL rC rP r1 r2 r3 (s_retouch (d, hist, n, tx, len, eo) (nI p) (nI k) (nI l)) _ _
      rw [e]
      exact ⟨rfl, _, ivN.rf, imI.mk kT rfl rfl rfl rfl rfl⟩
  · rintro v w ⟨r, rfl, thrown', undoDepth', data', history', lineLength', rfl, hp⟩
    exact ⟨r, rfl, hp⟩

set_option maxHeartbeats 4000000 in
set_option maxRecDepth 100000 in
theorem mi_setCost (l : Launch) (D : va_G) (cA : Nat → ClassId) (h rH rL rC rP r1 r2 r3 : Nat → Nat) (a1 : Int32) (a2 : Int32) {S : ivS} {th : Int32} {w : va_W} (kO : OkB S.1) (k8 : S.2.2.1 ≤ 8) (hI : imI cA h rH rL rC rP r1 r2 r3 S th w) : Con l D cA yX7_setCost (wm yX7_setCost cX7_setCost 3 (some .int)) { frames := 3, cells := 0, slots := 0, locals := 66 } w [.ref (h 0), .int a1, .int a2] 0 0 (PI (fun r w' => imO cA h rH rL rC rP r1 r2 r3 (s_setCost S a1 a2) r w')) := by
  obtain ⟨d, hist, n, tx, len, eo⟩ := S
  have kO : OkB d := kO
  have k8 : n ≤ 8 := k8
  refine hI.elim (P := fun w => Con l D cA yX7_setCost (wm yX7_setCost cX7_setCost 3 (some .int)) { frames := 3, cells := 0, slots := 0, locals := 66 } w [.ref (h 0), .int a1, .int a2] 0 0 (PI (fun r w' => imO cA h rH rL rC rP r1 r2 r3 (s_setCost (d, hist, n, tx, len, eo) a1 a2) r w'))) ?_
  intro thrown textLength position error errorAt numberStart seen pages buffer draft lineLength lines costAhead within setting firstParagraph firstLine pageLines beginCosts endCosts pageOf kT e0
  have h16 := kO.p16
  refine Con.imp (conX7_setCost l D cA h rH rL rC rP r1 r2 r3 thrown (nI len) textLength position error errorAt eo (nI n) numberStart seen pages buffer d draft hist lineLength lines costAhead within setting firstParagraph firstLine pageLines beginCosts endCosts pageOf a1 a2 (fun r thrown' undoDepth' data' history' => imO cA h rH rL rC rP r1 r2 r3 (s_setCost (d, hist, n, tx, len, eo) a1 a2) r (imW cA h rH rL rC rP r1 r2 r3 thrown' (nI len) textLength position error errorAt eo undoDepth' numberStart seen pages buffer data' draft history' lineLength lines costAhead within setting firstParagraph firstLine pageLines beginCosts endCosts pageOf)) ?_) ?_
  · refine setCostM_s kO k8 (fun k c hk e1 hc e2 hist' he => ?_) (fun hn => ?_)
    · subst e1 e2
      have e : (s_setCost (d, hist, n, tx, len, eo) (nI k) (nI c)) = rEd (d, hist, n, tx, len, eo) (nI (dC d k)) (upd d (5 + k) (nI c)) := by
        dsimp only [s_setCost]
        rw [cif_y ⟨inR_i hk, inR_i (show c < 1000 by omega)⟩, nz_e hk (by decide), nz_nI (show c < 2 ^ 31 by omega)]
      show imO cA h rH rL rC rP r1 r2 r3 (s_setCost (d, hist, n, tx, len, eo) (nI k) (nI c)) _ _
      rw [e]
      exact ⟨rfl, (_, hist', _, tx, len, eo), ⟨(fun q => by cases q), E5.rf _, he, rfl⟩, imI.mk kT rfl rfl rfl rfl rfl⟩
    · have e : (s_setCost (d, hist, n, tx, len, eo) a1 a2) = rNo (d, hist, n, tx, len, eo) 1 := cif_n hn
      show imO cA h rH rL rC rP r1 r2 r3 (s_setCost (d, hist, n, tx, len, eo) a1 a2) _ _
      rw [e]
      exact ⟨rfl, _, ivN.rf, imI.mk kT rfl rfl rfl rfl rfl⟩
  · rintro v w ⟨r, rfl, thrown', undoDepth', data', history', rfl, hp⟩
    exact ⟨r, rfl, hp⟩

set_option maxHeartbeats 4000000 in
set_option maxRecDepth 100000 in
theorem mi_load (l : Launch) (D : va_G) (cA : Nat → ClassId) (h rH rL rC rP r1 r2 r3 : Nat → Nat) (a1 : Int32) {S : ivS} {th : Int32} {w : va_W} (kO : OkB S.1) (k8 : S.2.2.1 ≤ 8) (hI : imI cA h rH rL rC rP r1 r2 r3 S th w) : Con l D cA yX7_load (wm yX7_load cX7_load 5 (some .int)) { frames := 7, cells := 0, slots := 0, locals := 155 } w [.ref (h 0), .int a1] 0 0 (PI (fun r w' => imO cA h rH rL rC rP r1 r2 r3 (s_load S a1) r w')) := by
  obtain ⟨d, hist, n, tx, len, eo⟩ := S
  have kO : OkB d := kO
  have k8 : n ≤ 8 := k8
  refine hI.elim (P := fun w => Con l D cA yX7_load (wm yX7_load cX7_load 5 (some .int)) { frames := 7, cells := 0, slots := 0, locals := 155 } w [.ref (h 0), .int a1] 0 0 (PI (fun r w' => imO cA h rH rL rC rP r1 r2 r3 (s_load (d, hist, n, tx, len, eo) a1) r w'))) ?_
  intro thrown textLength position error errorAt numberStart seen pages buffer draft lineLength lines costAhead within setting firstParagraph firstLine pageLines beginCosts endCosts pageOf kT e0
  have h16 := kO.p16
  refine Con.imp (conX7_load l D cA h rH rL rC rP r1 r2 r3 thrown (nI len) textLength position error errorAt eo (nI n) numberStart seen pages buffer d draft hist lineLength lines costAhead within setting firstParagraph firstLine pageLines beginCosts endCosts pageOf a1 (fun r thrown' bufferLength' textLength' position' error' errorAt' errorOffset' undoDepth' numberStart' seen' data' draft' history' => imO cA h rH rL rC rP r1 r2 r3 (s_load (d, hist, n, tx, len, eo) a1) r (imW cA h rH rL rC rP r1 r2 r3 thrown' bufferLength' textLength' position' error' errorAt' errorOffset' undoDepth' numberStart' seen' pages buffer data' draft' history' lineLength lines costAhead within setting firstParagraph firstLine pageLines beginCosts endCosts pageOf)) ?_) ?_
  · refine loadM_s kT k8 (fun hn => ?_) (fun m hm e1 c o hp _ _ _ _ => ?_) (fun m hm e1 b dd hp _ _ _ _ d' hist' hd he => ?_)
    · have e : (s_load (d, hist, n, tx, len, eo) a1) = rNo (d, hist, n, tx, len, eo) 1 := cif_n hn
      show imO cA h rH rL rC rP r1 r2 r3 (s_load (d, hist, n, tx, len, eo) a1) _ _
      rw [e]
      exact ⟨rfl, _, ivN.rf, imI.mk kT rfl rfl rfl rfl rfl⟩
    · subst e1
      have h7 := kT.1
      have e : (s_load (d, hist, n, tx, len, eo) (nI m)) = (0, c, false, (d, hist, n, tx, 0, nI o)) := by
        dsimp only [s_load]
        rw [cif_y (inR_i (show m < len + 1 by omega)), nz_nI (by omega), hp]
      show imO cA h rH rL rC rP r1 r2 r3 (s_load (d, hist, n, tx, len, eo) (nI m)) _ _
      rw [e]
      exact ⟨rfl, _, ivN.rf, imI.mk TX_0 rfl rfl rfl rfl rfl⟩
    · subst e1
      have h7 := kT.1
      have e : (s_load (d, hist, n, tx, len, eo) (nI m)) = (0, nI (dP dd), true, (dd, pushH hist n d, pushN n, tx, 0, -1)) := by
        dsimp only [s_load]
        rw [cif_y (inR_i (show m < len + 1 by omega)), nz_nI (by omega), hp]
      show imO cA h rH rL rC rP r1 r2 r3 (s_load (d, hist, n, tx, len, eo) (nI m)) _ _
      rw [e]
      exact ⟨rfl, (d', hist', pushN n, tx, 0, -1), ⟨(fun q => by cases q), hd, he, rfl⟩, imI.mk TX_0 rfl rfl rfl rfl rfl⟩
  · rintro v w ⟨r, rfl, thrown', bufferLength', textLength', position', error', errorAt', errorOffset', undoDepth', numberStart', seen', data', draft', history', rfl, hp⟩
    exact ⟨r, rfl, hp⟩
