/-! WHAT EACH CALL ANSWERS: which refusal (0: none), the answer, whether the book was changed, the state behind it. -/
abbrev ivR : Type := Int32 × Int32 × Bool × ivS
noncomputable def cif {α : Type} (P : Prop) (a b : α) : α := @ite α P (Classical.propDecidable P) a b
theorem cif_y {α : Type} {P : Prop} {a b : α} (h : P) : cif P a b = a := by unfold cif; exact if_pos h
theorem cif_n {α : Type} {P : Prop} {a b : α} (h : ¬ P) : cif P a b = b := by unfold cif; exact if_neg h
/-- a changed book -/
def ivE (S : ivS) (d' : Nat → Int32) : ivS := (d', pushH S.2.1 S.2.2.1 S.1, pushN S.2.2.1, S.2.2.2)
def rNo (S : ivS) (k : Int32) : ivR := (k, 0, false, S)
def rOk (S : ivS) (r : Int32) : ivR := (0, r, false, S)
def rEd (S : ivS) (r : Int32) (d' : Nat → Int32) : ivR := (0, r, true, ivE S d')
def s_append (S : ivS) (a1 a2 a3 a4 a5 : Int32) : ivR := if S.2.2.2.2.1 + 20 ≤ 700 then (0, nI (S.2.2.2.2.1 + 20), false, (S.1, S.2.1, S.2.2.1, appT S.2.2.2.1 S.2.2.2.2.1 a1 a2 a3 a4 a5, S.2.2.2.2.1 + 20, S.2.2.2.2.2)) else rOk S (-1)
noncomputable def s_load (S : ivS) (a1 : Int32) : ivR := cif (inR a1 (S.2.2.2.2.1 + 1)) (match pText S.2.2.2.1 (nz a1) with
  | .inl (c, o) => (0, c, false, (S.1, S.2.1, S.2.2.1, S.2.2.2.1, 0, nI o))
  | .inr (_, dd) => (0, nI (dP dd), true, (dd, pushH S.2.1 S.2.2.1 S.1, pushN S.2.2.1, S.2.2.2.1, 0, -1))) (rNo S 1)
noncomputable def s_state (S : ivS) (a1 : Int32) : ivR := cif (inR a1 13) (rOk S (stI S.1 (nz a1))) (rNo S 1)
noncomputable def s_paragraph (S : ivS) (a1 a2 : Int32) : ivR := cif (inR a1 (dP S.1)) (cif (inR a2 8) (rOk S (paI S.1 (nz a1) (nz a2))) (rNo S 2)) (rNo S 1)
noncomputable def s_word (S : ivS) (a1 a2 : Int32) : ivR := cif (inR a1 (dP S.1)) (cif (inR a2 (dN S.1 (nz a1))) (rOk S (nI (dV S.1 (nz a1) (nz a2)))) (rNo S 2)) (rNo S 1)
noncomputable def s_lineLength (S : ivS) (a1 a2 a3 : Int32) : ivR := cif (inR a1 (dP S.1)) (cif (inR a2 3) (cif (inR a3 (cnt S.1 (nz a1) (nz a2))) (rOk S (nI (tln S.1 (nz a1) (nz a2) (nz a3)))) (rNo S 3)) (rNo S 2)) (rNo S 1)
noncomputable def s_plan (S : ivS) (b : Bool) (a2 : Int32) : ivR := cif (inR a2 7) (rOk S (nI (numP S.1 (plQ S.1 b) (plS S.1 b) (nz a2)))) (rNo S 1)
noncomputable def s_page (S : ivS) (b : Bool) (a2 a3 : Int32) : ivR := cif (inR a2 (plQ S.1 b).1) (cif (inR a3 5) (rOk S (nI (pgN S.1 (plQ S.1 b) (fun p => cnt S.1 p (plS S.1 b p)) (nz a2) (nz a3)))) (rNo S 2)) (rNo S 1)
noncomputable def s_pageOf (S : ivS) (b : Bool) (a2 a3 : Int32) : ivR := cif (inR a2 (dP S.1)) (cif (inR a3 (cnt S.1 (nz a2) (plS S.1 b (nz a2)))) (rOk S (nI (pgW (plQ S.1 b) (nz a2) (nz a3) (plQ S.1 b).1))) (rNo S 2)) (rNo S 1)
noncomputable def s_help (S : ivS) (a1 : Int32) : ivR := cif (inR a1 (lyP S.1 sg0 (dP S.1)).1) (rOk S (helpS S.1 (nz a1))) (rNo S 1)
def s_saved (S : ivS) : ivR := rOk S (nI (numP S.1 (lyP S.1 sg0 (dP S.1)) sg0 0) - nI (numP S.1 (lyB S.1 (dP S.1)) (sgB S.1) 0))
noncomputable def s_fix (S : ivS) (a1 a2 : Int32) : ivR := cif (inR a1 (dP S.1)) (cif (inF a2) (rEd S (dF S.1 (nz a1)) (upd S.1 (11 + 34 * nz a1 + 2) a2)) (rNo S 2)) (rNo S 1)
noncomputable def s_begin (S : ivS) (a1 : Int32) (b : Bool) : ivR := cif (inR a1 (dP S.1)) (rEd S (bI (dB S.1 (nz a1))) (upd S.1 (11 + 34 * nz a1 + 1) (bI b))) (rNo S 1)
noncomputable def s_insert (S : ivS) (a1 a2 a3 : Int32) : ivR := cif (okIns S.1 a1 a2 a3) (if 16 ≤ dP S.1 then rNo S 2 else rEd S (nI (dP S.1 + 1)) (insD S.1 (nz a1) (nz a2) (nz a3))) (rNo S 1)
noncomputable def s_remove (S : ivS) (a1 : Int32) : ivR := cif (inR a1 (dP S.1)) (rEd S (nI (dN S.1 (nz a1))) (rmD S.1 (nz a1))) (rNo S 1)
noncomputable def s_retouch (S : ivS) (a1 a2 a3 : Int32) : ivR := cif (inR a1 (dP S.1)) (cif (okRet S.1 (nz a1) a2 a3) (cif (badRet S.1 (nz a1) (nz a2) (nz a3)) (rNo S 3) (rEd S (nI (cnt (retD S.1 (nz a1) (nz a2) (nz a3)) (nz a1) 0)) (retD S.1 (nz a1) (nz a2) (nz a3)))) (rNo S 2)) (rNo S 1)
noncomputable def s_setCost (S : ivS) (a1 a2 : Int32) : ivR := cif (inR a1 6 ∧ inR a2 1000) (rEd S (nI (dC S.1 (nz a1))) (upd S.1 (5 + nz a1) (nI (nz a2)))) (rNo S 1)
def s_undo (S : ivS) : ivR := if S.2.2.1 = 0 then rOk S (-1) else (0, nI (S.2.2.1 - 1), true, (S.2.1 (S.2.2.1 - 1), S.2.1, S.2.2.1 - 1, S.2.2.2))
/-! the answers' cases -/
section RC
variable {d : Nat → Int32} {hist : Nat → Nat → Int32} {n : Nat} {tx : Nat → Nat} {len : Nat} {eo : Int32} {a1 a2 a3 : Int32} {b : Bool} {p k s l w at_ : Nat}
theorem inR_i {m : Nat} (h : p < m) : inR (nI p) m := ⟨p, h, rfl⟩
theorem nz_e {m : Nat} (h : p < m) (hm : m ≤ 2000) : nz (nI p) = p := nz_nI (by omega)
end RC
/-- the reference's new state agrees with the class's -/
def ivN (R : ivR) (S1 : ivS) : Prop := (R.2.2.1 = false → S1 = R.2.2.2) ∧ E5 R.2.2.2.1 S1.1 ∧ (∀ i, i < R.2.2.2.2.2.1 → E5 (R.2.2.2.2.1 i) (S1.2.1 i)) ∧ S1.2.2 = R.2.2.2.2.2
theorem E5.rf (d : Nat → Int32) : E5 d d := fun _ _ => rfl
theorem ivN.rf {k r : Int32} {S : ivS} : ivN (k, r, false, S) S := ⟨fun _ => rfl, E5.rf _, fun _ _ => E5.rf _, rfl⟩
theorem ivI.near {cA : Nat → ClassId} {h ab ac ar : Nat → Nat} {R : ivR} {S1 : ivS} {w : va_W} (hI : ivI cA h ab ac ar R.2.2.2 R.2.2.1 w) (hN : ivN R S1) : ivI cA h ab ac ar S1 false w := by
  obtain ⟨k, r, e, S⟩ := R
  cases e with
  | false =>
    have e1 : S1 = S := hN.1 rfl
    subst e1
    exact hI
  | true => exact (hI.move hN.2.1 hN.2.2.1 hN.2.2.2).weak
/-- the class's answer, the reference's -/
def ivO (cA : Nat → ClassId) (h ab ac ar : Nat → Nat) (R : ivR) (r : Int32) (w : va_W) : Prop := R.1 = 0 ∧ r = R.2.1 ∧ ivI cA h ab ac ar R.2.2.2 R.2.2.1 w
/-- the class has thrown -/
def ivX (cA : Nat → ClassId) (h ab ac ar : Nat → Nat) (R : ivR) (k : Int32) (w : va_W) : Prop := R.1 = k ∧ ivI cA h ab ac ar R.2.2.2 R.2.2.1 w
