/-! THE REFERENCE'S CALLS over its invariant -/
def imOL (cA : Nat → ClassId) (h rH rL rC rP r1 r2 r3 : Nat → Nat) (S : ivS) (r : Int64) (w : va_W) : Prop := r = ckA S.1 ∧ imI cA h rH rL rC rP r1 r2 r3 S 0 w
def imOF (cA : Nat → ClassId) (h rH rL rC rP r1 r2 r3 : Nat → Nat) (S : ivS) (r : UInt32) (w : va_W) : Prop := r = fuV S.1 ∧ imI cA h rH rL rC rP r1 r2 r3 S 0 w
def imT (cA : Nat → ClassId) (h rH rL rC rP r1 r2 r3 : Nat → Nat) (S : ivS) (th r : Int32) (w : va_W) : Prop := r = th ∧ imI cA h rH rL rC rP r1 r2 r3 S th w
theorem ivI.n8 {cA : Nat → ClassId} {h ab ac ar : Nat → Nat} {S : ivS} {z : Bool} {w : va_W} (hI : ivI cA h ab ac ar S z w) : S.2.2.1 ≤ 8 := by
  obtain ⟨d, hist, n, tx, len, eo⟩ := S
  refine hI.elim (P := fun _ => n ≤ 8) ?_
  intro uT _ _ _ _ _ _ _ _ _ _ _ _ _ _ _ _ _ _ _ _ _ _ _ _ _ _ _ _ _ _ _ _ _ _ _ _ _ _ _ _ _ _ _ _ _ _ _ _ _ _ _ _ _ _ _ kO kT e0 kC kR kH kL kB kP kz
  obtain ⟨x, -, -, -, h8, -⟩ := kH
  exact h8
theorem imI.elim {cA : Nat → ClassId} {h rH rL rC rP r1 r2 r3 : Nat → Nat} {d : Nat → Int32} {hist : Nat → Nat → Int32} {n : Nat} {tx : Nat → Nat} {len : Nat} {eo th : Int32} {w : va_W} {P : va_W → Prop} (hI : imI cA h rH rL rC rP r1 r2 r3 (d, hist, n, tx, len, eo) th w) (k : ∀ (thrown : Int32) (textLength : Int32) (position : Int32) (error : Int32) (errorAt : Int32) (numberStart : Int32) (seen : Int32) (pages : Int32) (buffer : Nat → Int32) (draft : Nat → Int32) (lineLength : Nat → Int32) (lines : Nat → Nat → Int32) (costAhead : Nat → Nat → Int32) (within : Nat → Nat → Nat → Nat → Int32) (setting : Nat → Int32) (firstParagraph : Nat → Int32) (firstLine : Nat → Int32) (pageLines : Nat → Int32) (beginCosts : Nat → Int32) (endCosts : Nat → Int32) (pageOf : Nat → Nat → Int32), TX tx len buffer → thrown = th → P (imW cA h rH rL rC rP r1 r2 r3 thrown (nI len) textLength position error errorAt eo (nI n) numberStart seen pages buffer d draft hist lineLength lines costAhead within setting firstParagraph firstLine pageLines beginCosts endCosts pageOf)) : P w := by
  obtain ⟨thrown, bufferLength, textLength, position, error, errorAt, errorOffset, undoDepth, numberStart, seen, pages, buffer, data, draft, history, lineLength, lines, costAhead, within, setting, firstParagraph, firstLine, pageLines, beginCosts, endCosts, pageOf, rfl, e0, kT, e1, e2, e3, e4, e5⟩ := hI
  have e1 : bufferLength = nI len := e1
  have e2 : errorOffset = eo := e2
  have e3 : undoDepth = nI n := e3
  have e4 : data = d := e4
  have e5 : history = hist := e5
  rw [e1, e2, e3, e4, e5]
  exact k thrown textLength position error errorAt numberStart seen pages buffer draft lineLength lines costAhead within setting firstParagraph firstLine pageLines beginCosts endCosts pageOf kT e0
