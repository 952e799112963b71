/-! THE LAW'S OWN CELLS: maps from addresses to what lies there (rows of ints, of references, paragraphs, books, plans, numbers' sources), and rows over them -/
abbrev ceI : Type := Nat × (Nat → Int32)
abbrev ceQ : Type := Nat × Nat × (Nat → Option Nat)
abbrev ceP : Type := Int32 × Int32 × Int32 × Option Nat
abbrev ceB : Type := Int32 × Int32 × Int32 × Int32 × Option Nat × Option Nat × Option Nat × Option Nat × Option Nat × Int32
abbrev ceL : Type := Int32 × Option Nat × Option Nat
abbrev ceR : Type := Int32
abbrev ceS : Type := Option Nat × Int32 × Int32 × Int32
abbrev ceG : Type := Option Nat × Int32 × Int32 × Int32
abbrev Mu : Type := (Nat → Option ceI) × (Nat → Option ceQ) × (Nat → Option ceP) × (Nat → Option ceB) × (Nat → Option ceL) × (Nat → Option ceR) × (Nat → Option ceI) × (Nat → Option ceS) × (Nat → Option ceG)
abbrev mI (m : Mu) : Nat → Option ceI := m.1
abbrev mQ (m : Mu) : Nat → Option ceQ := m.2.1
abbrev mP (m : Mu) : Nat → Option ceP := m.2.2.1
abbrev mB (m : Mu) : Nat → Option ceB := m.2.2.2.1
abbrev mL (m : Mu) : Nat → Option ceL := m.2.2.2.2.1
abbrev mR (m : Mu) : Nat → Option ceR := m.2.2.2.2.2.1
abbrev mT (m : Mu) : Nat → Option ceI := m.2.2.2.2.2.2.1
abbrev mS (m : Mu) : Nat → Option ceS := m.2.2.2.2.2.2.2.1
abbrev mG (m : Mu) : Nat → Option ceG := m.2.2.2.2.2.2.2.2
abbrev sI (m : Mu) (a : Nat) (x : ceI) : Mu := (va_up m.1 a (some x), m.2.1, m.2.2.1, m.2.2.2.1, m.2.2.2.2.1, m.2.2.2.2.2.1, m.2.2.2.2.2.2.1, m.2.2.2.2.2.2.2.1, m.2.2.2.2.2.2.2.2)
abbrev sQ (m : Mu) (a : Nat) (x : ceQ) : Mu := (m.1, va_up m.2.1 a (some x), m.2.2.1, m.2.2.2.1, m.2.2.2.2.1, m.2.2.2.2.2.1, m.2.2.2.2.2.2.1, m.2.2.2.2.2.2.2.1, m.2.2.2.2.2.2.2.2)
abbrev sP (m : Mu) (a : Nat) (x : ceP) : Mu := (m.1, m.2.1, va_up m.2.2.1 a (some x), m.2.2.2.1, m.2.2.2.2.1, m.2.2.2.2.2.1, m.2.2.2.2.2.2.1, m.2.2.2.2.2.2.2.1, m.2.2.2.2.2.2.2.2)
abbrev sB (m : Mu) (a : Nat) (x : ceB) : Mu := (m.1, m.2.1, m.2.2.1, va_up m.2.2.2.1 a (some x), m.2.2.2.2.1, m.2.2.2.2.2.1, m.2.2.2.2.2.2.1, m.2.2.2.2.2.2.2.1, m.2.2.2.2.2.2.2.2)
abbrev sL (m : Mu) (a : Nat) (x : ceL) : Mu := (m.1, m.2.1, m.2.2.1, m.2.2.2.1, va_up m.2.2.2.2.1 a (some x), m.2.2.2.2.2.1, m.2.2.2.2.2.2.1, m.2.2.2.2.2.2.2.1, m.2.2.2.2.2.2.2.2)
abbrev sR (m : Mu) (a : Nat) (x : ceR) : Mu := (m.1, m.2.1, m.2.2.1, m.2.2.2.1, m.2.2.2.2.1, va_up m.2.2.2.2.2.1 a (some x), m.2.2.2.2.2.2.1, m.2.2.2.2.2.2.2.1, m.2.2.2.2.2.2.2.2)
abbrev sT (m : Mu) (a : Nat) (x : ceI) : Mu := (m.1, m.2.1, m.2.2.1, m.2.2.2.1, m.2.2.2.2.1, m.2.2.2.2.2.1, va_up m.2.2.2.2.2.2.1 a (some x), m.2.2.2.2.2.2.2.1, m.2.2.2.2.2.2.2.2)
abbrev sS (m : Mu) (a : Nat) (x : ceS) : Mu := (m.1, m.2.1, m.2.2.1, m.2.2.2.1, m.2.2.2.2.1, m.2.2.2.2.2.1, m.2.2.2.2.2.2.1, va_up m.2.2.2.2.2.2.2.1 a (some x), m.2.2.2.2.2.2.2.2)
abbrev sG (m : Mu) (a : Nat) (x : ceG) : Mu := (m.1, m.2.1, m.2.2.1, m.2.2.2.1, m.2.2.2.2.1, m.2.2.2.2.2.1, m.2.2.2.2.2.2.1, m.2.2.2.2.2.2.2.1, va_up m.2.2.2.2.2.2.2.2 a (some x))
/-- nothing lies there -/
def frM (m : Mu) (a : Nat) : Prop := mI m a = none ∧ mQ m a = none ∧ mP m a = none ∧ mB m a = none ∧ mL m a = none ∧ mR m a = none ∧ mT m a = none ∧ mS m a = none ∧ mG m a = none
abbrev eI (cA : Nat → ClassId) (x : ceI) : va_E := .inl (cA 0, x.1, .inl x.2)
abbrev eT (cA : Nat → ClassId) (x : ceI) : va_E := .inl (cA 4, x.1, .inl x.2)
abbrev eQ (cA : Nat → ClassId) (x : ceQ) : va_E := .inl (cA x.1, x.2.1, .inr (.inr (.inr (.inr x.2.2))))
abbrev fB (x : ceB) : List Value := [.int x.1, .int x.2.1, .int x.2.2.1, .int x.2.2.2.1, va_rf x.2.2.2.2.1, va_rf x.2.2.2.2.2.1, va_rf x.2.2.2.2.2.2.1, va_rf x.2.2.2.2.2.2.2.1, va_rf x.2.2.2.2.2.2.2.2.1, .int x.2.2.2.2.2.2.2.2.2]
abbrev eB (x : ceB) : va_E := .inr (7, fB x)
abbrev fP (x : ceP) : List Value := [.int x.1, .int x.2.1, .int x.2.2.1, va_rf x.2.2.2]
abbrev eP (x : ceP) : va_E := .inr (8, fP x)
abbrev fL (x : ceL) : List Value := [.int x.1, va_rf x.2.1, va_rf x.2.2]
abbrev eL (x : ceL) : va_E := .inr (9, fL x)
abbrev fR (x : ceR) : List Value := [.int x]
abbrev eR (x : ceR) : va_E := .inr (10, fR x)
abbrev fS (x : ceS) : List Value := [va_rf x.1, .int x.2.1, .int x.2.2.1, .int x.2.2.2]
abbrev eS (x : ceS) : va_E := .inr (11, fS x)
abbrev fG (x : ceG) : List Value := [va_rf x.1, .int x.2.1, .int x.2.2.1, .int x.2.2.2]
abbrev eG (x : ceG) : va_E := .inr (12, fG x)
/-- the world holds what the maps say -/
def LR0 (cA : Nat → ClassId) (ws : va_W) (m : Mu) : Prop := (∀ a x, mI m a = some x → (a, eI cA x) ∈ ws) ∧ (∀ a x, mQ m a = some x → (a, eQ cA x) ∈ ws) ∧ (∀ a x, mP m a = some x → (a, eP x) ∈ ws) ∧ (∀ a x, mB m a = some x → (a, eB x) ∈ ws) ∧ (∀ a x, mL m a = some x → (a, eL x) ∈ ws) ∧ (∀ a x, mR m a = some x → (a, eR x) ∈ ws) ∧ (∀ a x, mT m a = some x → (a, eT cA x) ∈ ws) ∧ (∀ a x, mS m a = some x → (a, eS x) ∈ ws) ∧ ∀ a x, mG m a = some x → (a, eG x) ∈ ws
/-- the same behind cells that are not opened -/
def LR (cA : Nat → ClassId) (w0 ws : va_W) (m : Mu) : Prop := ∃ l, ws = w0 ++ l ∧ LR0 cA l m
/-- the addresses are apart -/
def Ap (ws : va_W) : Prop := ∀ (i j : Nat) (p q : Nat × va_E), ws[i]? = some p → ws[j]? = some q → p.1 = q.1 → i = j
theorem Ap.mem {ws : va_W} (h : Ap ws) {a : Nat} {x y : va_E} (hx : (a, x) ∈ ws) (hy : (a, y) ∈ ws) : x = y := by
  obtain ⟨i, hi⟩ := List.getElem?_of_mem hx
  obtain ⟨j, hj⟩ := List.getElem?_of_mem hy
  have e := h i j _ _ hi hj rfl
  subst e
  rw [hi] at hj
  exact congrArg Prod.snd (Option.some.inj hj)
theorem up_s {α : Type} {f : Nat → α} {k : Nat} {v : α} : va_up f k v k = v := if_pos rfl
theorem up_n {α : Type} {f : Nat → α} {k j : Nat} {v : α} (h : j ≠ k) : va_up f k v j = f j := if_neg h
theorem up_c {α : Type} {f : Nat → Option α} {k j : Nat} {v x : α} (h : va_up f k (some v) j = some x) : (j = k ∧ x = v) ∨ (j ≠ k ∧ f j = some x) := by
  by_cases e : j = k
  · subst e
    rw [up_s] at h
    exact Or.inl ⟨rfl, (Option.some.inj h).symm⟩
  · rw [up_n e] at h
    exact Or.inr ⟨e, h⟩
theorem set_mem {ws : va_W} {i a b : Nat} {x y z : va_E} (hi : ws[i]? = some (a, x)) (hb : b ≠ a) (h : (b, y) ∈ ws) : (b, y) ∈ ws.set i (a, z) := by
  obtain ⟨j, hj⟩ := List.getElem?_of_mem h
  have hij : i ≠ j := fun e => by
    subst e
    rw [hi] at hj
    exact hb (congrArg Prod.fst (Option.some.inj hj)).symm
  have : (ws.set i (a, z))[j]? = some (b, y) := by rw [List.getElem?_set_ne hij]; exact hj
  exact List.mem_of_getElem? this
theorem set_own {ws : va_W} {i a : Nat} {x z : va_E} (hi : ws[i]? = some (a, x)) : (a, z) ∈ ws.set i (a, z) := by
  have hl := (List.getElem?_eq_some_iff.mp hi).1
  have : (ws.set i (a, z))[i]? = some (a, z) := by rw [List.getElem?_set_self hl]
  exact List.mem_of_getElem? this
theorem Ap.new {ws : va_W} {a : Nat} {z x : va_E} (h : Ap (ws ++ [(a, z)])) (hx : (a, x) ∈ ws) : False := by
  obtain ⟨i, hi⟩ := List.getElem?_of_mem hx
  have hl := (List.getElem?_eq_some_iff.mp hi).1
  have h1 : (ws ++ [(a, z)])[i]? = some (a, x) := by rw [List.getElem?_append_left hl]; exact hi
  have h2 : (ws ++ [(a, z)])[ws.length]? = some (a, z) := by rw [List.getElem?_append_right (Nat.le_refl _), Nat.sub_self]; rfl
  have := h i ws.length _ _ h1 h2 rfl
  omega
theorem LR0.I {cA : Nat → ClassId} {ws : va_W} {m : Mu} (h : LR0 cA ws m) {a : Nat} {x : ceI} (hx : mI m a = some x) : (a, eI cA x) ∈ ws := h.1 a x hx
theorem LR.I {cA : Nat → ClassId} {w0 ws : va_W} {m : Mu} (h : LR cA w0 ws m) {a : Nat} {x : ceI} (hx : mI m a = some x) : (a, eI cA x) ∈ ws := by
  obtain ⟨l, rfl, hl⟩ := h
  exact List.mem_append_right _ (hl.I hx)
theorem LR0.Q {cA : Nat → ClassId} {ws : va_W} {m : Mu} (h : LR0 cA ws m) {a : Nat} {x : ceQ} (hx : mQ m a = some x) : (a, eQ cA x) ∈ ws := h.2.1 a x hx
theorem LR.Q {cA : Nat → ClassId} {w0 ws : va_W} {m : Mu} (h : LR cA w0 ws m) {a : Nat} {x : ceQ} (hx : mQ m a = some x) : (a, eQ cA x) ∈ ws := by
  obtain ⟨l, rfl, hl⟩ := h
  exact List.mem_append_right _ (hl.Q hx)
theorem LR0.P {cA : Nat → ClassId} {ws : va_W} {m : Mu} (h : LR0 cA ws m) {a : Nat} {x : ceP} (hx : mP m a = some x) : (a, eP x) ∈ ws := h.2.2.1 a x hx
theorem LR.P {cA : Nat → ClassId} {w0 ws : va_W} {m : Mu} (h : LR cA w0 ws m) {a : Nat} {x : ceP} (hx : mP m a = some x) : (a, eP x) ∈ ws := by
  obtain ⟨l, rfl, hl⟩ := h
  exact List.mem_append_right _ (hl.P hx)
theorem LR0.B {cA : Nat → ClassId} {ws : va_W} {m : Mu} (h : LR0 cA ws m) {a : Nat} {x : ceB} (hx : mB m a = some x) : (a, eB x) ∈ ws := h.2.2.2.1 a x hx
theorem LR.B {cA : Nat → ClassId} {w0 ws : va_W} {m : Mu} (h : LR cA w0 ws m) {a : Nat} {x : ceB} (hx : mB m a = some x) : (a, eB x) ∈ ws := by
  obtain ⟨l, rfl, hl⟩ := h
  exact List.mem_append_right _ (hl.B hx)
theorem LR0.L {cA : Nat → ClassId} {ws : va_W} {m : Mu} (h : LR0 cA ws m) {a : Nat} {x : ceL} (hx : mL m a = some x) : (a, eL x) ∈ ws := h.2.2.2.2.1 a x hx
theorem LR.L {cA : Nat → ClassId} {w0 ws : va_W} {m : Mu} (h : LR cA w0 ws m) {a : Nat} {x : ceL} (hx : mL m a = some x) : (a, eL x) ∈ ws := by
  obtain ⟨l, rfl, hl⟩ := h
  exact List.mem_append_right _ (hl.L hx)
theorem LR0.R {cA : Nat → ClassId} {ws : va_W} {m : Mu} (h : LR0 cA ws m) {a : Nat} {x : ceR} (hx : mR m a = some x) : (a, eR x) ∈ ws := h.2.2.2.2.2.1 a x hx
theorem LR.R {cA : Nat → ClassId} {w0 ws : va_W} {m : Mu} (h : LR cA w0 ws m) {a : Nat} {x : ceR} (hx : mR m a = some x) : (a, eR x) ∈ ws := by
  obtain ⟨l, rfl, hl⟩ := h
  exact List.mem_append_right _ (hl.R hx)
theorem LR0.T {cA : Nat → ClassId} {ws : va_W} {m : Mu} (h : LR0 cA ws m) {a : Nat} {x : ceI} (hx : mT m a = some x) : (a, eT cA x) ∈ ws := h.2.2.2.2.2.2.1 a x hx
theorem LR.T {cA : Nat → ClassId} {w0 ws : va_W} {m : Mu} (h : LR cA w0 ws m) {a : Nat} {x : ceI} (hx : mT m a = some x) : (a, eT cA x) ∈ ws := by
  obtain ⟨l, rfl, hl⟩ := h
  exact List.mem_append_right _ (hl.T hx)
theorem LR0.S {cA : Nat → ClassId} {ws : va_W} {m : Mu} (h : LR0 cA ws m) {a : Nat} {x : ceS} (hx : mS m a = some x) : (a, eS x) ∈ ws := h.2.2.2.2.2.2.2.1 a x hx
theorem LR.S {cA : Nat → ClassId} {w0 ws : va_W} {m : Mu} (h : LR cA w0 ws m) {a : Nat} {x : ceS} (hx : mS m a = some x) : (a, eS x) ∈ ws := by
  obtain ⟨l, rfl, hl⟩ := h
  exact List.mem_append_right _ (hl.S hx)
theorem LR0.G {cA : Nat → ClassId} {ws : va_W} {m : Mu} (h : LR0 cA ws m) {a : Nat} {x : ceG} (hx : mG m a = some x) : (a, eG x) ∈ ws := h.2.2.2.2.2.2.2.2 a x hx
theorem LR.G {cA : Nat → ClassId} {w0 ws : va_W} {m : Mu} (h : LR cA w0 ws m) {a : Nat} {x : ceG} (hx : mG m a = some x) : (a, eG x) ∈ ws := by
  obtain ⟨l, rfl, hl⟩ := h
  exact List.mem_append_right _ (hl.G hx)
theorem Ap.right {w l : va_W} (h : Ap (w ++ l)) : Ap l := by
  intro i j p q hi hj e
  have h1 : (w ++ l)[w.length + i]? = some p := by rw [List.getElem?_append_right (Nat.le_add_right _ _), Nat.add_sub_cancel_left]; exact hi
  have h2 : (w ++ l)[w.length + j]? = some q := by rw [List.getElem?_append_right (Nat.le_add_right _ _), Nat.add_sub_cancel_left]; exact hj
  have := h _ _ _ _ h1 h2 e
  omega
theorem Ap.at {w l : va_W} (h : Ap (w ++ l)) {a i : Nat} {x y : va_E} (hy : (a, y) ∈ l) (hi : (w ++ l)[i]? = some (a, x)) : ∃ j, i = w.length + j ∧ l[j]? = some (a, x) := by
  obtain ⟨j, hj⟩ := List.getElem?_of_mem hy
  have h1 : (w ++ l)[w.length + j]? = some (a, y) := by rw [List.getElem?_append_right (Nat.le_add_right _ _), Nat.add_sub_cancel_left]; exact hj
  have e := h _ _ _ _ hi h1 rfl
  subst e
  refine ⟨j, rfl, ?_⟩
  rw [h1] at hi
  rw [← Option.some.inj hi]
  exact hj
theorem LR0.setI {cA : Nat → ClassId} {ws : va_W} {m : Mu} (h : LR0 cA ws m) (hd : Ap ws) (hne : cA 0 ≠ cA 4) {a i : Nat} {x x1 : ceI} (hi : ws[i]? = some (a, eI cA x)) : LR0 cA (ws.set i (a, eI cA x1)) (sI m a x1) :=
  ⟨fun b z hz => (up_c hz).elim (fun e => by obtain ⟨rfl, rfl⟩ := e; exact set_own hi) (fun e => set_mem hi e.1 (h.I e.2)),
    fun b z hz => set_mem hi (fun e => by subst e; have q := hd.mem (h.Q hz) (List.mem_of_getElem? hi); injection q with q; injection q with q q; injection q with q q; cases q) (h.Q hz),
    fun b z hz => set_mem hi (fun e => by subst e; have q := hd.mem (h.P hz) (List.mem_of_getElem? hi); cases q) (h.P hz),
    fun b z hz => set_mem hi (fun e => by subst e; have q := hd.mem (h.B hz) (List.mem_of_getElem? hi); cases q) (h.B hz),
    fun b z hz => set_mem hi (fun e => by subst e; have q := hd.mem (h.L hz) (List.mem_of_getElem? hi); cases q) (h.L hz),
    fun b z hz => set_mem hi (fun e => by subst e; have q := hd.mem (h.R hz) (List.mem_of_getElem? hi); cases q) (h.R hz),
    fun b z hz => set_mem hi (fun e => by subst e; have q := hd.mem (h.T hz) (List.mem_of_getElem? hi); injection q with q; exact hne (congrArg Prod.fst q).symm) (h.T hz),
    fun b z hz => set_mem hi (fun e => by subst e; have q := hd.mem (h.S hz) (List.mem_of_getElem? hi); cases q) (h.S hz),
    fun b z hz => set_mem hi (fun e => by subst e; have q := hd.mem (h.G hz) (List.mem_of_getElem? hi); cases q) (h.G hz)⟩
theorem LR.setI {cA : Nat → ClassId} {w0 ws : va_W} {m : Mu} (h : LR cA w0 ws m) (hd : Ap ws) (hne : cA 0 ≠ cA 4) {a i : Nat} {x x1 : ceI} (hm : mI m a = some x) (hi : ws[i]? = some (a, eI cA x)) : LR cA w0 (ws.set i (a, eI cA x1)) (sI m a x1) := by
  obtain ⟨l, rfl, hl⟩ := h
  obtain ⟨j, rfl, hj⟩ := hd.at (hl.I hm) hi
  refine ⟨l.set j (a, eI cA x1), ?_, hl.setI hd.right hne hj⟩
  rw [List.set_append_right _ _ (Nat.le_add_right _ _), Nat.add_sub_cancel_left]
theorem LR0.pushI {cA : Nat → ClassId} {ws : va_W} {m : Mu} (h : LR0 cA ws m) {a : Nat} {x : ceI} : LR0 cA (ws ++ [(a, eI cA x)]) (sI m a x) :=
  ⟨fun b z hz => (up_c hz).elim (fun e => by obtain ⟨rfl, rfl⟩ := e; exact List.mem_append_right _ List.mem_cons_self) (fun e => List.mem_append_left _ (h.I e.2)),
    fun b z hz => List.mem_append_left _ (h.Q hz),
    fun b z hz => List.mem_append_left _ (h.P hz),
    fun b z hz => List.mem_append_left _ (h.B hz),
    fun b z hz => List.mem_append_left _ (h.L hz),
    fun b z hz => List.mem_append_left _ (h.R hz),
    fun b z hz => List.mem_append_left _ (h.T hz),
    fun b z hz => List.mem_append_left _ (h.S hz),
    fun b z hz => List.mem_append_left _ (h.G hz)⟩
theorem LR.pushI {cA : Nat → ClassId} {w0 ws : va_W} {m : Mu} (h : LR cA w0 ws m) {a : Nat} {x : ceI} : LR cA w0 (ws ++ [(a, eI cA x)]) (sI m a x) := by
  obtain ⟨l, rfl, hl⟩ := h
  exact ⟨l ++ [(a, eI cA x)], by rw [List.append_assoc], hl.pushI⟩
theorem LR0.setQ {cA : Nat → ClassId} {ws : va_W} {m : Mu} (h : LR0 cA ws m) (hd : Ap ws) {a i : Nat} {x x1 : ceQ} (hi : ws[i]? = some (a, eQ cA x)) : LR0 cA (ws.set i (a, eQ cA x1)) (sQ m a x1) :=
  ⟨fun b z hz => set_mem hi (fun e => by subst e; have q := hd.mem (h.I hz) (List.mem_of_getElem? hi); injection q with q; injection q with q q; injection q with q q; cases q) (h.I hz),
    fun b z hz => (up_c hz).elim (fun e => by obtain ⟨rfl, rfl⟩ := e; exact set_own hi) (fun e => set_mem hi e.1 (h.Q e.2)),
    fun b z hz => set_mem hi (fun e => by subst e; have q := hd.mem (h.P hz) (List.mem_of_getElem? hi); cases q) (h.P hz),
    fun b z hz => set_mem hi (fun e => by subst e; have q := hd.mem (h.B hz) (List.mem_of_getElem? hi); cases q) (h.B hz),
    fun b z hz => set_mem hi (fun e => by subst e; have q := hd.mem (h.L hz) (List.mem_of_getElem? hi); cases q) (h.L hz),
    fun b z hz => set_mem hi (fun e => by subst e; have q := hd.mem (h.R hz) (List.mem_of_getElem? hi); cases q) (h.R hz),
    fun b z hz => set_mem hi (fun e => by subst e; have q := hd.mem (h.T hz) (List.mem_of_getElem? hi); injection q with q; injection q with q q; injection q with q q; cases q) (h.T hz),
    fun b z hz => set_mem hi (fun e => by subst e; have q := hd.mem (h.S hz) (List.mem_of_getElem? hi); cases q) (h.S hz),
    fun b z hz => set_mem hi (fun e => by subst e; have q := hd.mem (h.G hz) (List.mem_of_getElem? hi); cases q) (h.G hz)⟩
theorem LR.setQ {cA : Nat → ClassId} {w0 ws : va_W} {m : Mu} (h : LR cA w0 ws m) (hd : Ap ws) {a i : Nat} {x x1 : ceQ} (hm : mQ m a = some x) (hi : ws[i]? = some (a, eQ cA x)) : LR cA w0 (ws.set i (a, eQ cA x1)) (sQ m a x1) := by
  obtain ⟨l, rfl, hl⟩ := h
  obtain ⟨j, rfl, hj⟩ := hd.at (hl.Q hm) hi
  refine ⟨l.set j (a, eQ cA x1), ?_, hl.setQ hd.right hj⟩
  rw [List.set_append_right _ _ (Nat.le_add_right _ _), Nat.add_sub_cancel_left]
theorem LR0.pushQ {cA : Nat → ClassId} {ws : va_W} {m : Mu} (h : LR0 cA ws m) {a : Nat} {x : ceQ} : LR0 cA (ws ++ [(a, eQ cA x)]) (sQ m a x) :=
  ⟨fun b z hz => List.mem_append_left _ (h.I hz),
    fun b z hz => (up_c hz).elim (fun e => by obtain ⟨rfl, rfl⟩ := e; exact List.mem_append_right _ List.mem_cons_self) (fun e => List.mem_append_left _ (h.Q e.2)),
    fun b z hz => List.mem_append_left _ (h.P hz),
    fun b z hz => List.mem_append_left _ (h.B hz),
    fun b z hz => List.mem_append_left _ (h.L hz),
    fun b z hz => List.mem_append_left _ (h.R hz),
    fun b z hz => List.mem_append_left _ (h.T hz),
    fun b z hz => List.mem_append_left _ (h.S hz),
    fun b z hz => List.mem_append_left _ (h.G hz)⟩
theorem LR.pushQ {cA : Nat → ClassId} {w0 ws : va_W} {m : Mu} (h : LR cA w0 ws m) {a : Nat} {x : ceQ} : LR cA w0 (ws ++ [(a, eQ cA x)]) (sQ m a x) := by
  obtain ⟨l, rfl, hl⟩ := h
  exact ⟨l ++ [(a, eQ cA x)], by rw [List.append_assoc], hl.pushQ⟩
theorem LR0.setP {cA : Nat → ClassId} {ws : va_W} {m : Mu} (h : LR0 cA ws m) (hd : Ap ws) {a i : Nat} {x x1 : ceP} (hi : ws[i]? = some (a, eP x)) : LR0 cA (ws.set i (a, eP x1)) (sP m a x1) :=
  ⟨fun b z hz => set_mem hi (fun e => by subst e; have q := hd.mem (h.I hz) (List.mem_of_getElem? hi); cases q) (h.I hz),
    fun b z hz => set_mem hi (fun e => by subst e; have q := hd.mem (h.Q hz) (List.mem_of_getElem? hi); cases q) (h.Q hz),
    fun b z hz => (up_c hz).elim (fun e => by obtain ⟨rfl, rfl⟩ := e; exact set_own hi) (fun e => set_mem hi e.1 (h.P e.2)),
    fun b z hz => set_mem hi (fun e => by subst e; have q := hd.mem (h.B hz) (List.mem_of_getElem? hi); injection q with q; exact absurd (congrArg Prod.fst q) (show ¬ (7 : Nat) = 8 by decide)) (h.B hz),
    fun b z hz => set_mem hi (fun e => by subst e; have q := hd.mem (h.L hz) (List.mem_of_getElem? hi); injection q with q; exact absurd (congrArg Prod.fst q) (show ¬ (9 : Nat) = 8 by decide)) (h.L hz),
    fun b z hz => set_mem hi (fun e => by subst e; have q := hd.mem (h.R hz) (List.mem_of_getElem? hi); injection q with q; exact absurd (congrArg Prod.fst q) (show ¬ (10 : Nat) = 8 by decide)) (h.R hz),
    fun b z hz => set_mem hi (fun e => by subst e; have q := hd.mem (h.T hz) (List.mem_of_getElem? hi); cases q) (h.T hz),
    fun b z hz => set_mem hi (fun e => by subst e; have q := hd.mem (h.S hz) (List.mem_of_getElem? hi); injection q with q; exact absurd (congrArg Prod.fst q) (show ¬ (11 : Nat) = 8 by decide)) (h.S hz),
    fun b z hz => set_mem hi (fun e => by subst e; have q := hd.mem (h.G hz) (List.mem_of_getElem? hi); injection q with q; exact absurd (congrArg Prod.fst q) (show ¬ (12 : Nat) = 8 by decide)) (h.G hz)⟩
theorem LR.setP {cA : Nat → ClassId} {w0 ws : va_W} {m : Mu} (h : LR cA w0 ws m) (hd : Ap ws) {a i : Nat} {x x1 : ceP} (hm : mP m a = some x) (hi : ws[i]? = some (a, eP x)) : LR cA w0 (ws.set i (a, eP x1)) (sP m a x1) := by
  obtain ⟨l, rfl, hl⟩ := h
  obtain ⟨j, rfl, hj⟩ := hd.at (hl.P hm) hi
  refine ⟨l.set j (a, eP x1), ?_, hl.setP hd.right hj⟩
  rw [List.set_append_right _ _ (Nat.le_add_right _ _), Nat.add_sub_cancel_left]
theorem LR0.pushP {cA : Nat → ClassId} {ws : va_W} {m : Mu} (h : LR0 cA ws m) {a : Nat} {x : ceP} : LR0 cA (ws ++ [(a, eP x)]) (sP m a x) :=
  ⟨fun b z hz => List.mem_append_left _ (h.I hz),
    fun b z hz => List.mem_append_left _ (h.Q hz),
    fun b z hz => (up_c hz).elim (fun e => by obtain ⟨rfl, rfl⟩ := e; exact List.mem_append_right _ List.mem_cons_self) (fun e => List.mem_append_left _ (h.P e.2)),
    fun b z hz => List.mem_append_left _ (h.B hz),
    fun b z hz => List.mem_append_left _ (h.L hz),
    fun b z hz => List.mem_append_left _ (h.R hz),
    fun b z hz => List.mem_append_left _ (h.T hz),
    fun b z hz => List.mem_append_left _ (h.S hz),
    fun b z hz => List.mem_append_left _ (h.G hz)⟩
theorem LR.pushP {cA : Nat → ClassId} {w0 ws : va_W} {m : Mu} (h : LR cA w0 ws m) {a : Nat} {x : ceP} : LR cA w0 (ws ++ [(a, eP x)]) (sP m a x) := by
  obtain ⟨l, rfl, hl⟩ := h
  exact ⟨l ++ [(a, eP x)], by rw [List.append_assoc], hl.pushP⟩
theorem LR0.setB {cA : Nat → ClassId} {ws : va_W} {m : Mu} (h : LR0 cA ws m) (hd : Ap ws) {a i : Nat} {x x1 : ceB} (hi : ws[i]? = some (a, eB x)) : LR0 cA (ws.set i (a, eB x1)) (sB m a x1) :=
  ⟨fun b z hz => set_mem hi (fun e => by subst e; have q := hd.mem (h.I hz) (List.mem_of_getElem? hi); cases q) (h.I hz),
    fun b z hz => set_mem hi (fun e => by subst e; have q := hd.mem (h.Q hz) (List.mem_of_getElem? hi); cases q) (h.Q hz),
    fun b z hz => set_mem hi (fun e => by subst e; have q := hd.mem (h.P hz) (List.mem_of_getElem? hi); injection q with q; exact absurd (congrArg Prod.fst q) (show ¬ (8 : Nat) = 7 by decide)) (h.P hz),
    fun b z hz => (up_c hz).elim (fun e => by obtain ⟨rfl, rfl⟩ := e; exact set_own hi) (fun e => set_mem hi e.1 (h.B e.2)),
    fun b z hz => set_mem hi (fun e => by subst e; have q := hd.mem (h.L hz) (List.mem_of_getElem? hi); injection q with q; exact absurd (congrArg Prod.fst q) (show ¬ (9 : Nat) = 7 by decide)) (h.L hz),
    fun b z hz => set_mem hi (fun e => by subst e; have q := hd.mem (h.R hz) (List.mem_of_getElem? hi); injection q with q; exact absurd (congrArg Prod.fst q) (show ¬ (10 : Nat) = 7 by decide)) (h.R hz),
    fun b z hz => set_mem hi (fun e => by subst e; have q := hd.mem (h.T hz) (List.mem_of_getElem? hi); cases q) (h.T hz),
    fun b z hz => set_mem hi (fun e => by subst e; have q := hd.mem (h.S hz) (List.mem_of_getElem? hi); injection q with q; exact absurd (congrArg Prod.fst q) (show ¬ (11 : Nat) = 7 by decide)) (h.S hz),
    fun b z hz => set_mem hi (fun e => by subst e; have q := hd.mem (h.G hz) (List.mem_of_getElem? hi); injection q with q; exact absurd (congrArg Prod.fst q) (show ¬ (12 : Nat) = 7 by decide)) (h.G hz)⟩
theorem LR.setB {cA : Nat → ClassId} {w0 ws : va_W} {m : Mu} (h : LR cA w0 ws m) (hd : Ap ws) {a i : Nat} {x x1 : ceB} (hm : mB m a = some x) (hi : ws[i]? = some (a, eB x)) : LR cA w0 (ws.set i (a, eB x1)) (sB m a x1) := by
  obtain ⟨l, rfl, hl⟩ := h
  obtain ⟨j, rfl, hj⟩ := hd.at (hl.B hm) hi
  refine ⟨l.set j (a, eB x1), ?_, hl.setB hd.right hj⟩
  rw [List.set_append_right _ _ (Nat.le_add_right _ _), Nat.add_sub_cancel_left]
theorem LR0.pushB {cA : Nat → ClassId} {ws : va_W} {m : Mu} (h : LR0 cA ws m) {a : Nat} {x : ceB} : LR0 cA (ws ++ [(a, eB x)]) (sB m a x) :=
  ⟨fun b z hz => List.mem_append_left _ (h.I hz),
    fun b z hz => List.mem_append_left _ (h.Q hz),
    fun b z hz => List.mem_append_left _ (h.P hz),
    fun b z hz => (up_c hz).elim (fun e => by obtain ⟨rfl, rfl⟩ := e; exact List.mem_append_right _ List.mem_cons_self) (fun e => List.mem_append_left _ (h.B e.2)),
    fun b z hz => List.mem_append_left _ (h.L hz),
    fun b z hz => List.mem_append_left _ (h.R hz),
    fun b z hz => List.mem_append_left _ (h.T hz),
    fun b z hz => List.mem_append_left _ (h.S hz),
    fun b z hz => List.mem_append_left _ (h.G hz)⟩
theorem LR.pushB {cA : Nat → ClassId} {w0 ws : va_W} {m : Mu} (h : LR cA w0 ws m) {a : Nat} {x : ceB} : LR cA w0 (ws ++ [(a, eB x)]) (sB m a x) := by
  obtain ⟨l, rfl, hl⟩ := h
  exact ⟨l ++ [(a, eB x)], by rw [List.append_assoc], hl.pushB⟩
theorem LR0.setL {cA : Nat → ClassId} {ws : va_W} {m : Mu} (h : LR0 cA ws m) (hd : Ap ws) {a i : Nat} {x x1 : ceL} (hi : ws[i]? = some (a, eL x)) : LR0 cA (ws.set i (a, eL x1)) (sL m a x1) :=
  ⟨fun b z hz => set_mem hi (fun e => by subst e; have q := hd.mem (h.I hz) (List.mem_of_getElem? hi); cases q) (h.I hz),
    fun b z hz => set_mem hi (fun e => by subst e; have q := hd.mem (h.Q hz) (List.mem_of_getElem? hi); cases q) (h.Q hz),
    fun b z hz => set_mem hi (fun e => by subst e; have q := hd.mem (h.P hz) (List.mem_of_getElem? hi); injection q with q; exact absurd (congrArg Prod.fst q) (show ¬ (8 : Nat) = 9 by decide)) (h.P hz),
    fun b z hz => set_mem hi (fun e => by subst e; have q := hd.mem (h.B hz) (List.mem_of_getElem? hi); injection q with q; exact absurd (congrArg Prod.fst q) (show ¬ (7 : Nat) = 9 by decide)) (h.B hz),
    fun b z hz => (up_c hz).elim (fun e => by obtain ⟨rfl, rfl⟩ := e; exact set_own hi) (fun e => set_mem hi e.1 (h.L e.2)),
    fun b z hz => set_mem hi (fun e => by subst e; have q := hd.mem (h.R hz) (List.mem_of_getElem? hi); injection q with q; exact absurd (congrArg Prod.fst q) (show ¬ (10 : Nat) = 9 by decide)) (h.R hz),
    fun b z hz => set_mem hi (fun e => by subst e; have q := hd.mem (h.T hz) (List.mem_of_getElem? hi); cases q) (h.T hz),
    fun b z hz => set_mem hi (fun e => by subst e; have q := hd.mem (h.S hz) (List.mem_of_getElem? hi); injection q with q; exact absurd (congrArg Prod.fst q) (show ¬ (11 : Nat) = 9 by decide)) (h.S hz),
    fun b z hz => set_mem hi (fun e => by subst e; have q := hd.mem (h.G hz) (List.mem_of_getElem? hi); injection q with q; exact absurd (congrArg Prod.fst q) (show ¬ (12 : Nat) = 9 by decide)) (h.G hz)⟩
theorem LR.setL {cA : Nat → ClassId} {w0 ws : va_W} {m : Mu} (h : LR cA w0 ws m) (hd : Ap ws) {a i : Nat} {x x1 : ceL} (hm : mL m a = some x) (hi : ws[i]? = some (a, eL x)) : LR cA w0 (ws.set i (a, eL x1)) (sL m a x1) := by
  obtain ⟨l, rfl, hl⟩ := h
  obtain ⟨j, rfl, hj⟩ := hd.at (hl.L hm) hi
  refine ⟨l.set j (a, eL x1), ?_, hl.setL hd.right hj⟩
  rw [List.set_append_right _ _ (Nat.le_add_right _ _), Nat.add_sub_cancel_left]
theorem LR0.pushL {cA : Nat → ClassId} {ws : va_W} {m : Mu} (h : LR0 cA ws m) {a : Nat} {x : ceL} : LR0 cA (ws ++ [(a, eL x)]) (sL m a x) :=
  ⟨fun b z hz => List.mem_append_left _ (h.I hz),
    fun b z hz => List.mem_append_left _ (h.Q hz),
    fun b z hz => List.mem_append_left _ (h.P hz),
    fun b z hz => List.mem_append_left _ (h.B hz),
    fun b z hz => (up_c hz).elim (fun e => by obtain ⟨rfl, rfl⟩ := e; exact List.mem_append_right _ List.mem_cons_self) (fun e => List.mem_append_left _ (h.L e.2)),
    fun b z hz => List.mem_append_left _ (h.R hz),
    fun b z hz => List.mem_append_left _ (h.T hz),
    fun b z hz => List.mem_append_left _ (h.S hz),
    fun b z hz => List.mem_append_left _ (h.G hz)⟩
theorem LR.pushL {cA : Nat → ClassId} {w0 ws : va_W} {m : Mu} (h : LR cA w0 ws m) {a : Nat} {x : ceL} : LR cA w0 (ws ++ [(a, eL x)]) (sL m a x) := by
  obtain ⟨l, rfl, hl⟩ := h
  exact ⟨l ++ [(a, eL x)], by rw [List.append_assoc], hl.pushL⟩
theorem LR0.setR {cA : Nat → ClassId} {ws : va_W} {m : Mu} (h : LR0 cA ws m) (hd : Ap ws) {a i : Nat} {x x1 : ceR} (hi : ws[i]? = some (a, eR x)) : LR0 cA (ws.set i (a, eR x1)) (sR m a x1) :=
  ⟨fun b z hz => set_mem hi (fun e => by subst e; have q := hd.mem (h.I hz) (List.mem_of_getElem? hi); cases q) (h.I hz),
    fun b z hz => set_mem hi (fun e => by subst e; have q := hd.mem (h.Q hz) (List.mem_of_getElem? hi); cases q) (h.Q hz),
    fun b z hz => set_mem hi (fun e => by subst e; have q := hd.mem (h.P hz) (List.mem_of_getElem? hi); injection q with q; exact absurd (congrArg Prod.fst q) (show ¬ (8 : Nat) = 10 by decide)) (h.P hz),
    fun b z hz => set_mem hi (fun e => by subst e; have q := hd.mem (h.B hz) (List.mem_of_getElem? hi); injection q with q; exact absurd (congrArg Prod.fst q) (show ¬ (7 : Nat) = 10 by decide)) (h.B hz),
    fun b z hz => set_mem hi (fun e => by subst e; have q := hd.mem (h.L hz) (List.mem_of_getElem? hi); injection q with q; exact absurd (congrArg Prod.fst q) (show ¬ (9 : Nat) = 10 by decide)) (h.L hz),
    fun b z hz => (up_c hz).elim (fun e => by obtain ⟨rfl, rfl⟩ := e; exact set_own hi) (fun e => set_mem hi e.1 (h.R e.2)),
    fun b z hz => set_mem hi (fun e => by subst e; have q := hd.mem (h.T hz) (List.mem_of_getElem? hi); cases q) (h.T hz),
    fun b z hz => set_mem hi (fun e => by subst e; have q := hd.mem (h.S hz) (List.mem_of_getElem? hi); injection q with q; exact absurd (congrArg Prod.fst q) (show ¬ (11 : Nat) = 10 by decide)) (h.S hz),
    fun b z hz => set_mem hi (fun e => by subst e; have q := hd.mem (h.G hz) (List.mem_of_getElem? hi); injection q with q; exact absurd (congrArg Prod.fst q) (show ¬ (12 : Nat) = 10 by decide)) (h.G hz)⟩
theorem LR.setR {cA : Nat → ClassId} {w0 ws : va_W} {m : Mu} (h : LR cA w0 ws m) (hd : Ap ws) {a i : Nat} {x x1 : ceR} (hm : mR m a = some x) (hi : ws[i]? = some (a, eR x)) : LR cA w0 (ws.set i (a, eR x1)) (sR m a x1) := by
  obtain ⟨l, rfl, hl⟩ := h
  obtain ⟨j, rfl, hj⟩ := hd.at (hl.R hm) hi
  refine ⟨l.set j (a, eR x1), ?_, hl.setR hd.right hj⟩
  rw [List.set_append_right _ _ (Nat.le_add_right _ _), Nat.add_sub_cancel_left]
theorem LR0.pushR {cA : Nat → ClassId} {ws : va_W} {m : Mu} (h : LR0 cA ws m) {a : Nat} {x : ceR} : LR0 cA (ws ++ [(a, eR x)]) (sR m a x) :=
  ⟨fun b z hz => List.mem_append_left _ (h.I hz),
    fun b z hz => List.mem_append_left _ (h.Q hz),
    fun b z hz => List.mem_append_left _ (h.P hz),
    fun b z hz => List.mem_append_left _ (h.B hz),
    fun b z hz => List.mem_append_left _ (h.L hz),
    fun b z hz => (up_c hz).elim (fun e => by obtain ⟨rfl, rfl⟩ := e; exact List.mem_append_right _ List.mem_cons_self) (fun e => List.mem_append_left _ (h.R e.2)),
    fun b z hz => List.mem_append_left _ (h.T hz),
    fun b z hz => List.mem_append_left _ (h.S hz),
    fun b z hz => List.mem_append_left _ (h.G hz)⟩
theorem LR.pushR {cA : Nat → ClassId} {w0 ws : va_W} {m : Mu} (h : LR cA w0 ws m) {a : Nat} {x : ceR} : LR cA w0 (ws ++ [(a, eR x)]) (sR m a x) := by
  obtain ⟨l, rfl, hl⟩ := h
  exact ⟨l ++ [(a, eR x)], by rw [List.append_assoc], hl.pushR⟩
theorem LR0.setT {cA : Nat → ClassId} {ws : va_W} {m : Mu} (h : LR0 cA ws m) (hd : Ap ws) (hne : cA 0 ≠ cA 4) {a i : Nat} {x x1 : ceI} (hi : ws[i]? = some (a, eT cA x)) : LR0 cA (ws.set i (a, eT cA x1)) (sT m a x1) :=
  ⟨fun b z hz => set_mem hi (fun e => by subst e; have q := hd.mem (h.I hz) (List.mem_of_getElem? hi); injection q with q; exact hne (congrArg Prod.fst q)) (h.I hz),
    fun b z hz => set_mem hi (fun e => by subst e; have q := hd.mem (h.Q hz) (List.mem_of_getElem? hi); injection q with q; injection q with q q; injection q with q q; cases q) (h.Q hz),
    fun b z hz => set_mem hi (fun e => by subst e; have q := hd.mem (h.P hz) (List.mem_of_getElem? hi); cases q) (h.P hz),
    fun b z hz => set_mem hi (fun e => by subst e; have q := hd.mem (h.B hz) (List.mem_of_getElem? hi); cases q) (h.B hz),
    fun b z hz => set_mem hi (fun e => by subst e; have q := hd.mem (h.L hz) (List.mem_of_getElem? hi); cases q) (h.L hz),
    fun b z hz => set_mem hi (fun e => by subst e; have q := hd.mem (h.R hz) (List.mem_of_getElem? hi); cases q) (h.R hz),
    fun b z hz => (up_c hz).elim (fun e => by obtain ⟨rfl, rfl⟩ := e; exact set_own hi) (fun e => set_mem hi e.1 (h.T e.2)),
    fun b z hz => set_mem hi (fun e => by subst e; have q := hd.mem (h.S hz) (List.mem_of_getElem? hi); cases q) (h.S hz),
    fun b z hz => set_mem hi (fun e => by subst e; have q := hd.mem (h.G hz) (List.mem_of_getElem? hi); cases q) (h.G hz)⟩
theorem LR.setT {cA : Nat → ClassId} {w0 ws : va_W} {m : Mu} (h : LR cA w0 ws m) (hd : Ap ws) (hne : cA 0 ≠ cA 4) {a i : Nat} {x x1 : ceI} (hm : mT m a = some x) (hi : ws[i]? = some (a, eT cA x)) : LR cA w0 (ws.set i (a, eT cA x1)) (sT m a x1) := by
  obtain ⟨l, rfl, hl⟩ := h
  obtain ⟨j, rfl, hj⟩ := hd.at (hl.T hm) hi
  refine ⟨l.set j (a, eT cA x1), ?_, hl.setT hd.right hne hj⟩
  rw [List.set_append_right _ _ (Nat.le_add_right _ _), Nat.add_sub_cancel_left]
theorem LR0.pushT {cA : Nat → ClassId} {ws : va_W} {m : Mu} (h : LR0 cA ws m) {a : Nat} {x : ceI} : LR0 cA (ws ++ [(a, eT cA x)]) (sT m a x) :=
  ⟨fun b z hz => List.mem_append_left _ (h.I hz),
    fun b z hz => List.mem_append_left _ (h.Q hz),
    fun b z hz => List.mem_append_left _ (h.P hz),
    fun b z hz => List.mem_append_left _ (h.B hz),
    fun b z hz => List.mem_append_left _ (h.L hz),
    fun b z hz => List.mem_append_left _ (h.R hz),
    fun b z hz => (up_c hz).elim (fun e => by obtain ⟨rfl, rfl⟩ := e; exact List.mem_append_right _ List.mem_cons_self) (fun e => List.mem_append_left _ (h.T e.2)),
    fun b z hz => List.mem_append_left _ (h.S hz),
    fun b z hz => List.mem_append_left _ (h.G hz)⟩
theorem LR.pushT {cA : Nat → ClassId} {w0 ws : va_W} {m : Mu} (h : LR cA w0 ws m) {a : Nat} {x : ceI} : LR cA w0 (ws ++ [(a, eT cA x)]) (sT m a x) := by
  obtain ⟨l, rfl, hl⟩ := h
  exact ⟨l ++ [(a, eT cA x)], by rw [List.append_assoc], hl.pushT⟩
theorem LR0.setS {cA : Nat → ClassId} {ws : va_W} {m : Mu} (h : LR0 cA ws m) (hd : Ap ws) {a i : Nat} {x x1 : ceS} (hi : ws[i]? = some (a, eS x)) : LR0 cA (ws.set i (a, eS x1)) (sS m a x1) :=
  ⟨fun b z hz => set_mem hi (fun e => by subst e; have q := hd.mem (h.I hz) (List.mem_of_getElem? hi); cases q) (h.I hz),
    fun b z hz => set_mem hi (fun e => by subst e; have q := hd.mem (h.Q hz) (List.mem_of_getElem? hi); cases q) (h.Q hz),
    fun b z hz => set_mem hi (fun e => by subst e; have q := hd.mem (h.P hz) (List.mem_of_getElem? hi); injection q with q; exact absurd (congrArg Prod.fst q) (show ¬ (8 : Nat) = 11 by decide)) (h.P hz),
    fun b z hz => set_mem hi (fun e => by subst e; have q := hd.mem (h.B hz) (List.mem_of_getElem? hi); injection q with q; exact absurd (congrArg Prod.fst q) (show ¬ (7 : Nat) = 11 by decide)) (h.B hz),
    fun b z hz => set_mem hi (fun e => by subst e; have q := hd.mem (h.L hz) (List.mem_of_getElem? hi); injection q with q; exact absurd (congrArg Prod.fst q) (show ¬ (9 : Nat) = 11 by decide)) (h.L hz),
    fun b z hz => set_mem hi (fun e => by subst e; have q := hd.mem (h.R hz) (List.mem_of_getElem? hi); injection q with q; exact absurd (congrArg Prod.fst q) (show ¬ (10 : Nat) = 11 by decide)) (h.R hz),
    fun b z hz => set_mem hi (fun e => by subst e; have q := hd.mem (h.T hz) (List.mem_of_getElem? hi); cases q) (h.T hz),
    fun b z hz => (up_c hz).elim (fun e => by obtain ⟨rfl, rfl⟩ := e; exact set_own hi) (fun e => set_mem hi e.1 (h.S e.2)),
    fun b z hz => set_mem hi (fun e => by subst e; have q := hd.mem (h.G hz) (List.mem_of_getElem? hi); injection q with q; exact absurd (congrArg Prod.fst q) (show ¬ (12 : Nat) = 11 by decide)) (h.G hz)⟩
theorem LR.setS {cA : Nat → ClassId} {w0 ws : va_W} {m : Mu} (h : LR cA w0 ws m) (hd : Ap ws) {a i : Nat} {x x1 : ceS} (hm : mS m a = some x) (hi : ws[i]? = some (a, eS x)) : LR cA w0 (ws.set i (a, eS x1)) (sS m a x1) := by
  obtain ⟨l, rfl, hl⟩ := h
  obtain ⟨j, rfl, hj⟩ := hd.at (hl.S hm) hi
  refine ⟨l.set j (a, eS x1), ?_, hl.setS hd.right hj⟩
  rw [List.set_append_right _ _ (Nat.le_add_right _ _), Nat.add_sub_cancel_left]
theorem LR0.pushS {cA : Nat → ClassId} {ws : va_W} {m : Mu} (h : LR0 cA ws m) {a : Nat} {x : ceS} : LR0 cA (ws ++ [(a, eS x)]) (sS m a x) :=
  ⟨fun b z hz => List.mem_append_left _ (h.I hz),
    fun b z hz => List.mem_append_left _ (h.Q hz),
    fun b z hz => List.mem_append_left _ (h.P hz),
    fun b z hz => List.mem_append_left _ (h.B hz),
    fun b z hz => List.mem_append_left _ (h.L hz),
    fun b z hz => List.mem_append_left _ (h.R hz),
    fun b z hz => List.mem_append_left _ (h.T hz),
    fun b z hz => (up_c hz).elim (fun e => by obtain ⟨rfl, rfl⟩ := e; exact List.mem_append_right _ List.mem_cons_self) (fun e => List.mem_append_left _ (h.S e.2)),
    fun b z hz => List.mem_append_left _ (h.G hz)⟩
theorem LR.pushS {cA : Nat → ClassId} {w0 ws : va_W} {m : Mu} (h : LR cA w0 ws m) {a : Nat} {x : ceS} : LR cA w0 (ws ++ [(a, eS x)]) (sS m a x) := by
  obtain ⟨l, rfl, hl⟩ := h
  exact ⟨l ++ [(a, eS x)], by rw [List.append_assoc], hl.pushS⟩
theorem LR0.setG {cA : Nat → ClassId} {ws : va_W} {m : Mu} (h : LR0 cA ws m) (hd : Ap ws) {a i : Nat} {x x1 : ceG} (hi : ws[i]? = some (a, eG x)) : LR0 cA (ws.set i (a, eG x1)) (sG m a x1) :=
  ⟨fun b z hz => set_mem hi (fun e => by subst e; have q := hd.mem (h.I hz) (List.mem_of_getElem? hi); cases q) (h.I hz),
    fun b z hz => set_mem hi (fun e => by subst e; have q := hd.mem (h.Q hz) (List.mem_of_getElem? hi); cases q) (h.Q hz),
    fun b z hz => set_mem hi (fun e => by subst e; have q := hd.mem (h.P hz) (List.mem_of_getElem? hi); injection q with q; exact absurd (congrArg Prod.fst q) (show ¬ (8 : Nat) = 12 by decide)) (h.P hz),
    fun b z hz => set_mem hi (fun e => by subst e; have q := hd.mem (h.B hz) (List.mem_of_getElem? hi); injection q with q; exact absurd (congrArg Prod.fst q) (show ¬ (7 : Nat) = 12 by decide)) (h.B hz),
    fun b z hz => set_mem hi (fun e => by subst e; have q := hd.mem (h.L hz) (List.mem_of_getElem? hi); injection q with q; exact absurd (congrArg Prod.fst q) (show ¬ (9 : Nat) = 12 by decide)) (h.L hz),
    fun b z hz => set_mem hi (fun e => by subst e; have q := hd.mem (h.R hz) (List.mem_of_getElem? hi); injection q with q; exact absurd (congrArg Prod.fst q) (show ¬ (10 : Nat) = 12 by decide)) (h.R hz),
    fun b z hz => set_mem hi (fun e => by subst e; have q := hd.mem (h.T hz) (List.mem_of_getElem? hi); cases q) (h.T hz),
    fun b z hz => set_mem hi (fun e => by subst e; have q := hd.mem (h.S hz) (List.mem_of_getElem? hi); injection q with q; exact absurd (congrArg Prod.fst q) (show ¬ (11 : Nat) = 12 by decide)) (h.S hz),
    fun b z hz => (up_c hz).elim (fun e => by obtain ⟨rfl, rfl⟩ := e; exact set_own hi) (fun e => set_mem hi e.1 (h.G e.2))⟩
theorem LR.setG {cA : Nat → ClassId} {w0 ws : va_W} {m : Mu} (h : LR cA w0 ws m) (hd : Ap ws) {a i : Nat} {x x1 : ceG} (hm : mG m a = some x) (hi : ws[i]? = some (a, eG x)) : LR cA w0 (ws.set i (a, eG x1)) (sG m a x1) := by
  obtain ⟨l, rfl, hl⟩ := h
  obtain ⟨j, rfl, hj⟩ := hd.at (hl.G hm) hi
  refine ⟨l.set j (a, eG x1), ?_, hl.setG hd.right hj⟩
  rw [List.set_append_right _ _ (Nat.le_add_right _ _), Nat.add_sub_cancel_left]
theorem LR0.pushG {cA : Nat → ClassId} {ws : va_W} {m : Mu} (h : LR0 cA ws m) {a : Nat} {x : ceG} : LR0 cA (ws ++ [(a, eG x)]) (sG m a x) :=
  ⟨fun b z hz => List.mem_append_left _ (h.I hz),
    fun b z hz => List.mem_append_left _ (h.Q hz),
    fun b z hz => List.mem_append_left _ (h.P hz),
    fun b z hz => List.mem_append_left _ (h.B hz),
    fun b z hz => List.mem_append_left _ (h.L hz),
    fun b z hz => List.mem_append_left _ (h.R hz),
    fun b z hz => List.mem_append_left _ (h.T hz),
    fun b z hz => List.mem_append_left _ (h.S hz),
    fun b z hz => (up_c hz).elim (fun e => by obtain ⟨rfl, rfl⟩ := e; exact List.mem_append_right _ List.mem_cons_self) (fun e => List.mem_append_left _ (h.G e.2))⟩
theorem LR.pushG {cA : Nat → ClassId} {w0 ws : va_W} {m : Mu} (h : LR cA w0 ws m) {a : Nat} {x : ceG} : LR cA w0 (ws ++ [(a, eG x)]) (sG m a x) := by
  obtain ⟨l, rfl, hl⟩ := h
  exact ⟨l ++ [(a, eG x)], by rw [List.append_assoc], hl.pushG⟩
theorem LR.fresh {cA : Nat → ClassId} {w0 ws : va_W} {m : Mu} (h : LR cA w0 ws m) {a : Nat} {z : va_E} (hd : Ap (ws ++ [(a, z)])) : frM m a := by
  refine ⟨?_, ?_, ?_, ?_, ?_, ?_, ?_, ?_, ?_⟩
  · cases hx : mI m a with
    | none => rfl
    | some x => exact (hd.new (h.I hx)).elim
  · cases hx : mQ m a with
    | none => rfl
    | some x => exact (hd.new (h.Q hx)).elim
  · cases hx : mP m a with
    | none => rfl
    | some x => exact (hd.new (h.P hx)).elim
  · cases hx : mB m a with
    | none => rfl
    | some x => exact (hd.new (h.B hx)).elim
  · cases hx : mL m a with
    | none => rfl
    | some x => exact (hd.new (h.L hx)).elim
  · cases hx : mR m a with
    | none => rfl
    | some x => exact (hd.new (h.R hx)).elim
  · cases hx : mT m a with
    | none => rfl
    | some x => exact (hd.new (h.T hx)).elim
  · cases hx : mS m a with
    | none => rfl
    | some x => exact (hd.new (h.S hx)).elim
  · cases hx : mG m a with
    | none => rfl
    | some x => exact (hd.new (h.G hx)).elim
theorem W2_106 : Cond.sameMethod "[I" "java/lang/Object" "clone" "()Ljava/lang/Object;" ∈ W0 := W0_2 (i := 106) rfl rfl
theorem W2_107 : Cond.native ⟨"java/lang/Object", "clone", "()Ljava/lang/Object;"⟩ ∈ W0 := W0_2 (i := 107) rfl rfl
theorem W2_108 : Cond.instanceMethod ⟨"java/lang/Object", "clone", "()Ljava/lang/Object;"⟩ ∈ W0 := W0_2 (i := 108) rfl rfl
theorem W2_109 : Cond.selects "[I" ⟨"[I", "clone", "()Ljava/lang/Object;"⟩ ⟨"java/lang/Object", "clone", "()Ljava/lang/Object;"⟩ ∈ W0 := W0_2 (i := 109) rfl rfl
theorem df_B : ∀ j, j < 10 → defaultValue (tyX7 j) = vp_V (fB (0, 0, 0, 0, none, none, none, none, none, 0)) j := by
  intro j hj
  have h : j = 0 ∨ j = 1 ∨ j = 2 ∨ j = 3 ∨ j = 4 ∨ j = 5 ∨ j = 6 ∨ j = 7 ∨ j = 8 ∨ j = 9 := by omega
  rcases h with rfl | rfl | rfl | rfl | rfl | rfl | rfl | rfl | rfl | rfl <;> rfl
theorem df_P : ∀ j, j < 4 → defaultValue (tyX8 j) = vp_V (fP (0, 0, 0, none)) j := by
  intro j hj
  have h : j = 0 ∨ j = 1 ∨ j = 2 ∨ j = 3 := by omega
  rcases h with rfl | rfl | rfl | rfl <;> rfl
theorem df_L : ∀ j, j < 3 → defaultValue (tyX9 j) = vp_V (fL (0, none, none)) j := by
  intro j hj
  have h : j = 0 ∨ j = 1 ∨ j = 2 := by omega
  rcases h with rfl | rfl | rfl <;> rfl
theorem df_R : ∀ j, j < 1 → defaultValue (tyX10 j) = vp_V (fR 0) j := by
  intro j hj
  have h : j = 0 := by omega
  rcases h with rfl <;> rfl
theorem df_S : ∀ j, j < 4 → defaultValue (tyJ0 j) = vp_V (fS (none, 0, 0, 0)) j := by
  intro j hj
  have h : j = 0 ∨ j = 1 ∨ j = 2 ∨ j = 3 := by omega
  rcases h with rfl | rfl | rfl | rfl <;> rfl
theorem df_G : ∀ j, j < 4 → defaultValue (tyJ4 j) = vp_V (fG (none, 0, 0, 0)) j := by
  intro j hj
  have h : j = 0 ∨ j = 1 ∨ j = 2 ∨ j = 3 := by omega
  rcases h with rfl | rfl | rfl | rfl <;> rfl
theorem k_fit {v : Int32} (h : v = 0 ∨ v = 1) : fits .boolean (.int v) = true := by rcases h with rfl | rfl <;> rfl
theorem WARRB : Cond.arrayClass (newarray.typeOf .byte) ∈ W0 := W0_3 (i := 8) rfl rfl
theorem WCPN : Cond.native arraycopyName ∈ W0 := W0_5 (i := 131) rfl rfl
theorem WCPS : Cond.static arraycopyName ∈ W0 := W0_5 (i := 130) rfl rfl
theorem WCPI : Cond.initialized "java/lang/System" ∈ W0 := W0_1 (i := 27) rfl rfl
theorem WSELG : Cond.selects "java/lang/StringBuilder" ⟨"java/lang/AbstractStringBuilder", "isLatin1", "()Z"⟩ ⟨"java/lang/AbstractStringBuilder", "isLatin1", "()Z"⟩ ∈ W0 := W0_5 (i := 135) rfl rfl
theorem sby_fit : ∀ i, i < 10 → ∀ j, j < strL.getD i 0 → fits .byte (.int ((strB.getD i []).getD j 0)) = true := by decide +kernel
section LK
variable {p : Program} {l : Launch} {e : Env} {R : Room} {s : State} {m : MethodId} {args : Array Value} {below : List Frame} {meth : Method} {c : Code} {D : va_G} {A : Nat → Prop} {nL cells slots : Nat} {Q : State → Prop} {ws : va_W} {pc : Nat} {lv : List (Nat × Value)} {st : List Value}
variable {cc : ByteArray} {Ts : List Cond} {own : String} {cA : Nat → ClassId}

theorem ne04 (C : Cx p s m meth c cc nL args Ts own D cA A) : cA 0 ≠ cA 4 := by
  intro e
  obtain ⟨-, k0, h0, c0, g0⟩ := (C.2.1.1.2 0 (cA 0, .int) rfl).1 0 (fun _ => .null)
  obtain ⟨-, k4, h4, c4, g4⟩ := (C.2.1.1.2 4 (cA 4, .byte) rfl).1 0 (fun _ => .null)
  have h0 : s.vm.classes[cA 0]? = some k0 := h0
  have h4 : s.vm.classes[cA 4]? = some k4 := h4
  rw [e, h4] at h0
  cases Option.some.inj h0
  rw [g4] at g0
  cases g0
theorem k_dist (kk : Ap ws → Kf p l e R s m args below meth c D A nL cells slots Q ws pc lv st) : Kf p l e R s m args below meth c D A nL cells slots Q ws pc lv st := fun H locs ls hP hD hS hl => kk hD.1 H locs ls hP hD hS hl
theorem l_getB (C : Cx p s m meth c cc nL args Ts own D cA A) {mu : Mu} {w0 : va_W} (hR : LR cA w0 ws mu) {a : Nat} {x : ceB} {index : Nat} {ref : String} {v : Value} (hx : mB mu a = some x) (k : Nat) (hk : k < 10) (hlink : Cond.fieldLink own index ref (TX7 k).2.1 (TX7 k).2.2.1 ∈ W0) (href : ref = (TX7 k).1) (hv : (fB x)[k]? = some v) (hdg : decode cc pc = .ok (.getfield index, 3))
    (kk : Kf p l e R s m args below meth c D A nL cells slots Q ws (pc + 3) lv (v :: st)) : Kf p l e R s m args below meth c D A nL cells slots Q ws pc lv (.ref a :: st) := by
  obtain ⟨i, hi⟩ := List.getElem?_of_mem (hR.B hx)
  exact k_get C inW_X7 i k hi rfl hk hlink href hv hdg kk
theorem l_putB (C : Cx p s m meth c cc nL args Ts own D cA A) {mu : Mu} {w0 : va_W} (hR : LR cA w0 ws mu) {a : Nat} {x x1 : ceB} {index : Nat} {ref : String} {v : Value} {ty : FieldType} (hx : mB mu a = some x) (k : Nat) (hk : k < 10) (hlink : Cond.fieldLink own index ref (TX7 k).2.1 (TX7 k).2.2.1 ∈ W0) (href : ref = (TX7 k).1) (hfin : (TX7 k).2.2.2 = false) (hd : tyX7 k = ty) (hn : narrow ty v = v) (hfit : fits ty v = true) (hfs : (fB x).set k v = fB x1) (hdg : decode cc pc = .ok (.putfield index, 3))
    (kk : ∀ w1, LR cA w0 w1 (sB mu a x1) → Kf p l e R s m args below meth c D A nL cells slots Q w1 (pc + 3) lv st) : Kf p l e R s m args below meth c D A nL cells slots Q ws pc lv (v :: .ref a :: st) := by
  obtain ⟨i, hi⟩ := List.getElem?_of_mem (hR.B hx)
  refine k_dist (fun hdd => ?_)
  exact k_put C inW_X7 tyX7 tyX7_ok nmX7 i k hi rfl hk hlink href hfin hd hn hfit hk hfs rfl hdg (kk _ (hR.setB hdd hx hi))
theorem l_newB (C : Cx p s m meth c cc nL args Ts own D cA A) {mu : Mu} {w0 : va_W} (hR : LR cA w0 ws mu) {u index : Nat} (hcl : Cond.classLink own index RX7 ∈ W0) (hinst : Cond.instantiable RX7 10 ∈ W0) (hini : Cond.initialized RX7 ∈ W0) (hcells : u + 1 ≤ R.cells) (hslots : 16 * (u + 1) ≤ R.slots) (hdg : decode cc pc = .ok (.new index, 3))
    (kk : ∀ (q : Nat) (w1 : va_W), frM mu q → LR cA w0 w1 (sB mu q (0, 0, 0, 0, none, none, none, none, none, 0)) → Kf p l e R s m args below meth c D A nL (u + 1) (16 * (u + 1)) Q w1 (pc + 3) lv (.ref q :: st)) : Kf p l e R s m args below meth c D A nL (u) (16 * (u)) Q ws (pc) lv (st) := by
  refine k_new C (ci := 7) (T := TX7) (fs := fB (0, 0, 0, 0, none, none, none, none, none, 0)) inW_X7 tyX7 tyX7_ok hcl hinst hini rfl df_B hcells (by omega) hdg (fun q => ?_)
  refine k_dist (fun hdd => ?_)
  exact k_widen (Nat.le_refl _) (by omega) (kk q _ (hR.fresh hdd) hR.pushB)
theorem l_getP (C : Cx p s m meth c cc nL args Ts own D cA A) {mu : Mu} {w0 : va_W} (hR : LR cA w0 ws mu) {a : Nat} {x : ceP} {index : Nat} {ref : String} {v : Value} (hx : mP mu a = some x) (k : Nat) (hk : k < 4) (hlink : Cond.fieldLink own index ref (TX8 k).2.1 (TX8 k).2.2.1 ∈ W0) (href : ref = (TX8 k).1) (hv : (fP x)[k]? = some v) (hdg : decode cc pc = .ok (.getfield index, 3))
    (kk : Kf p l e R s m args below meth c D A nL cells slots Q ws (pc + 3) lv (v :: st)) : Kf p l e R s m args below meth c D A nL cells slots Q ws pc lv (.ref a :: st) := by
  obtain ⟨i, hi⟩ := List.getElem?_of_mem (hR.P hx)
  exact k_get C inW_X8 i k hi rfl hk hlink href hv hdg kk
theorem l_putP (C : Cx p s m meth c cc nL args Ts own D cA A) {mu : Mu} {w0 : va_W} (hR : LR cA w0 ws mu) {a : Nat} {x x1 : ceP} {index : Nat} {ref : String} {v : Value} {ty : FieldType} (hx : mP mu a = some x) (k : Nat) (hk : k < 4) (hlink : Cond.fieldLink own index ref (TX8 k).2.1 (TX8 k).2.2.1 ∈ W0) (href : ref = (TX8 k).1) (hfin : (TX8 k).2.2.2 = false) (hd : tyX8 k = ty) (hn : narrow ty v = v) (hfit : fits ty v = true) (hfs : (fP x).set k v = fP x1) (hdg : decode cc pc = .ok (.putfield index, 3))
    (kk : ∀ w1, LR cA w0 w1 (sP mu a x1) → Kf p l e R s m args below meth c D A nL cells slots Q w1 (pc + 3) lv st) : Kf p l e R s m args below meth c D A nL cells slots Q ws pc lv (v :: .ref a :: st) := by
  obtain ⟨i, hi⟩ := List.getElem?_of_mem (hR.P hx)
  refine k_dist (fun hdd => ?_)
  exact k_put C inW_X8 tyX8 tyX8_ok nmX8 i k hi rfl hk hlink href hfin hd hn hfit hk hfs rfl hdg (kk _ (hR.setP hdd hx hi))
theorem l_newP (C : Cx p s m meth c cc nL args Ts own D cA A) {mu : Mu} {w0 : va_W} (hR : LR cA w0 ws mu) {u index : Nat} (hcl : Cond.classLink own index RX8 ∈ W0) (hinst : Cond.instantiable RX8 4 ∈ W0) (hini : Cond.initialized RX8 ∈ W0) (hcells : u + 1 ≤ R.cells) (hslots : 16 * (u + 1) ≤ R.slots) (hdg : decode cc pc = .ok (.new index, 3))
    (kk : ∀ (q : Nat) (w1 : va_W), frM mu q → LR cA w0 w1 (sP mu q (0, 0, 0, none)) → Kf p l e R s m args below meth c D A nL (u + 1) (16 * (u + 1)) Q w1 (pc + 3) lv (.ref q :: st)) : Kf p l e R s m args below meth c D A nL (u) (16 * (u)) Q ws (pc) lv (st) := by
  refine k_new C (ci := 8) (T := TX8) (fs := fP (0, 0, 0, none)) inW_X8 tyX8 tyX8_ok hcl hinst hini rfl df_P hcells (by omega) hdg (fun q => ?_)
  refine k_dist (fun hdd => ?_)
  exact k_widen (Nat.le_refl _) (by omega) (kk q _ (hR.fresh hdd) hR.pushP)
theorem l_getL (C : Cx p s m meth c cc nL args Ts own D cA A) {mu : Mu} {w0 : va_W} (hR : LR cA w0 ws mu) {a : Nat} {x : ceL} {index : Nat} {ref : String} {v : Value} (hx : mL mu a = some x) (k : Nat) (hk : k < 3) (hlink : Cond.fieldLink own index ref (TX9 k).2.1 (TX9 k).2.2.1 ∈ W0) (href : ref = (TX9 k).1) (hv : (fL x)[k]? = some v) (hdg : decode cc pc = .ok (.getfield index, 3))
    (kk : Kf p l e R s m args below meth c D A nL cells slots Q ws (pc + 3) lv (v :: st)) : Kf p l e R s m args below meth c D A nL cells slots Q ws pc lv (.ref a :: st) := by
  obtain ⟨i, hi⟩ := List.getElem?_of_mem (hR.L hx)
  exact k_get C inW_X9 i k hi rfl hk hlink href hv hdg kk
theorem l_putL (C : Cx p s m meth c cc nL args Ts own D cA A) {mu : Mu} {w0 : va_W} (hR : LR cA w0 ws mu) {a : Nat} {x x1 : ceL} {index : Nat} {ref : String} {v : Value} {ty : FieldType} (hx : mL mu a = some x) (k : Nat) (hk : k < 3) (hlink : Cond.fieldLink own index ref (TX9 k).2.1 (TX9 k).2.2.1 ∈ W0) (href : ref = (TX9 k).1) (hfin : (TX9 k).2.2.2 = false) (hd : tyX9 k = ty) (hn : narrow ty v = v) (hfit : fits ty v = true) (hfs : (fL x).set k v = fL x1) (hdg : decode cc pc = .ok (.putfield index, 3))
    (kk : ∀ w1, LR cA w0 w1 (sL mu a x1) → Kf p l e R s m args below meth c D A nL cells slots Q w1 (pc + 3) lv st) : Kf p l e R s m args below meth c D A nL cells slots Q ws pc lv (v :: .ref a :: st) := by
  obtain ⟨i, hi⟩ := List.getElem?_of_mem (hR.L hx)
  refine k_dist (fun hdd => ?_)
  exact k_put C inW_X9 tyX9 tyX9_ok nmX9 i k hi rfl hk hlink href hfin hd hn hfit hk hfs rfl hdg (kk _ (hR.setL hdd hx hi))
theorem l_newL (C : Cx p s m meth c cc nL args Ts own D cA A) {mu : Mu} {w0 : va_W} (hR : LR cA w0 ws mu) {u index : Nat} (hcl : Cond.classLink own index RX9 ∈ W0) (hinst : Cond.instantiable RX9 3 ∈ W0) (hini : Cond.initialized RX9 ∈ W0) (hcells : u + 1 ≤ R.cells) (hslots : 16 * (u + 1) ≤ R.slots) (hdg : decode cc pc = .ok (.new index, 3))
    (kk : ∀ (q : Nat) (w1 : va_W), frM mu q → LR cA w0 w1 (sL mu q (0, none, none)) → Kf p l e R s m args below meth c D A nL (u + 1) (16 * (u + 1)) Q w1 (pc + 3) lv (.ref q :: st)) : Kf p l e R s m args below meth c D A nL (u) (16 * (u)) Q ws (pc) lv (st) := by
  refine k_new C (ci := 9) (T := TX9) (fs := fL (0, none, none)) inW_X9 tyX9 tyX9_ok hcl hinst hini rfl df_L hcells (by omega) hdg (fun q => ?_)
  refine k_dist (fun hdd => ?_)
  exact k_widen (Nat.le_refl _) (by omega) (kk q _ (hR.fresh hdd) hR.pushL)
theorem l_getR (C : Cx p s m meth c cc nL args Ts own D cA A) {mu : Mu} {w0 : va_W} (hR : LR cA w0 ws mu) {a : Nat} {x : ceR} {index : Nat} {ref : String} {v : Value} (hx : mR mu a = some x) (k : Nat) (hk : k < 1) (hlink : Cond.fieldLink own index ref (TX10 k).2.1 (TX10 k).2.2.1 ∈ W0) (href : ref = (TX10 k).1) (hv : (fR x)[k]? = some v) (hdg : decode cc pc = .ok (.getfield index, 3))
    (kk : Kf p l e R s m args below meth c D A nL cells slots Q ws (pc + 3) lv (v :: st)) : Kf p l e R s m args below meth c D A nL cells slots Q ws pc lv (.ref a :: st) := by
  obtain ⟨i, hi⟩ := List.getElem?_of_mem (hR.R hx)
  exact k_get C inW_X10 i k hi rfl hk hlink href hv hdg kk
theorem l_putR (C : Cx p s m meth c cc nL args Ts own D cA A) {mu : Mu} {w0 : va_W} (hR : LR cA w0 ws mu) {a : Nat} {x x1 : ceR} {index : Nat} {ref : String} {v : Value} {ty : FieldType} (hx : mR mu a = some x) (k : Nat) (hk : k < 1) (hlink : Cond.fieldLink own index ref (TX10 k).2.1 (TX10 k).2.2.1 ∈ W0) (href : ref = (TX10 k).1) (hfin : (TX10 k).2.2.2 = false) (hd : tyX10 k = ty) (hn : narrow ty v = v) (hfit : fits ty v = true) (hfs : (fR x).set k v = fR x1) (hdg : decode cc pc = .ok (.putfield index, 3))
    (kk : ∀ w1, LR cA w0 w1 (sR mu a x1) → Kf p l e R s m args below meth c D A nL cells slots Q w1 (pc + 3) lv st) : Kf p l e R s m args below meth c D A nL cells slots Q ws pc lv (v :: .ref a :: st) := by
  obtain ⟨i, hi⟩ := List.getElem?_of_mem (hR.R hx)
  refine k_dist (fun hdd => ?_)
  exact k_put C inW_X10 tyX10 tyX10_ok nmX10 i k hi rfl hk hlink href hfin hd hn hfit hk hfs rfl hdg (kk _ (hR.setR hdd hx hi))
theorem l_newR (C : Cx p s m meth c cc nL args Ts own D cA A) {mu : Mu} {w0 : va_W} (hR : LR cA w0 ws mu) {u index : Nat} (hcl : Cond.classLink own index RX10 ∈ W0) (hinst : Cond.instantiable RX10 1 ∈ W0) (hini : Cond.initialized RX10 ∈ W0) (hcells : u + 1 ≤ R.cells) (hslots : 16 * (u + 1) ≤ R.slots) (hdg : decode cc pc = .ok (.new index, 3))
    (kk : ∀ (q : Nat) (w1 : va_W), frM mu q → LR cA w0 w1 (sR mu q 0) → Kf p l e R s m args below meth c D A nL (u + 1) (16 * (u + 1)) Q w1 (pc + 3) lv (.ref q :: st)) : Kf p l e R s m args below meth c D A nL (u) (16 * (u)) Q ws (pc) lv (st) := by
  refine k_new C (ci := 10) (T := TX10) (fs := fR 0) inW_X10 tyX10 tyX10_ok hcl hinst hini rfl df_R hcells (by omega) hdg (fun q => ?_)
  refine k_dist (fun hdd => ?_)
  exact k_widen (Nat.le_refl _) (by omega) (kk q _ (hR.fresh hdd) hR.pushR)
theorem l_getS (C : Cx p s m meth c cc nL args Ts own D cA A) {mu : Mu} {w0 : va_W} (hR : LR cA w0 ws mu) {a : Nat} {x : ceS} {index : Nat} {ref : String} {v : Value} (hx : mS mu a = some x) (k : Nat) (hk : k < 4) (hlink : Cond.fieldLink own index ref (TJ0 k).2.1 (TJ0 k).2.2.1 ∈ W0) (href : ref = (TJ0 k).1) (hv : (fS x)[k]? = some v) (hdg : decode cc pc = .ok (.getfield index, 3))
    (kk : Kf p l e R s m args below meth c D A nL cells slots Q ws (pc + 3) lv (v :: st)) : Kf p l e R s m args below meth c D A nL cells slots Q ws pc lv (.ref a :: st) := by
  obtain ⟨i, hi⟩ := List.getElem?_of_mem (hR.S hx)
  exact k_get C inW_J0 i k hi rfl hk hlink href hv hdg kk
theorem l_putS (C : Cx p s m meth c cc nL args Ts own D cA A) {mu : Mu} {w0 : va_W} (hR : LR cA w0 ws mu) {a : Nat} {x x1 : ceS} {index : Nat} {ref : String} {v : Value} {ty : FieldType} (hx : mS mu a = some x) (k : Nat) (hk : k < 4) (hlink : Cond.fieldLink own index ref (TJ0 k).2.1 (TJ0 k).2.2.1 ∈ W0) (href : ref = (TJ0 k).1) (hfin : (TJ0 k).2.2.2 = false) (hd : tyJ0 k = ty) (hn : narrow ty v = v) (hfit : fits ty v = true) (hfs : (fS x).set k v = fS x1) (hdg : decode cc pc = .ok (.putfield index, 3))
    (kk : ∀ w1, LR cA w0 w1 (sS mu a x1) → Kf p l e R s m args below meth c D A nL cells slots Q w1 (pc + 3) lv st) : Kf p l e R s m args below meth c D A nL cells slots Q ws pc lv (v :: .ref a :: st) := by
  obtain ⟨i, hi⟩ := List.getElem?_of_mem (hR.S hx)
  refine k_dist (fun hdd => ?_)
  exact k_put C inW_J0 tyJ0 tyJ0_ok nmJ0 i k hi rfl hk hlink href hfin hd hn hfit hk hfs rfl hdg (kk _ (hR.setS hdd hx hi))
theorem l_newS (C : Cx p s m meth c cc nL args Ts own D cA A) {mu : Mu} {w0 : va_W} (hR : LR cA w0 ws mu) {u index : Nat} (hcl : Cond.classLink own index RJ0 ∈ W0) (hinst : Cond.instantiable RJ0 4 ∈ W0) (hini : Cond.initialized RJ0 ∈ W0) (hcells : u + 1 ≤ R.cells) (hslots : 16 * (u + 1) ≤ R.slots) (hdg : decode cc pc = .ok (.new index, 3))
    (kk : ∀ (q : Nat) (w1 : va_W), frM mu q → LR cA w0 w1 (sS mu q (none, 0, 0, 0)) → Kf p l e R s m args below meth c D A nL (u + 1) (16 * (u + 1)) Q w1 (pc + 3) lv (.ref q :: st)) : Kf p l e R s m args below meth c D A nL (u) (16 * (u)) Q ws (pc) lv (st) := by
  refine k_new C (ci := 11) (T := TJ0) (fs := fS (none, 0, 0, 0)) inW_J0 tyJ0 tyJ0_ok hcl hinst hini rfl df_S hcells (by omega) hdg (fun q => ?_)
  refine k_dist (fun hdd => ?_)
  exact k_widen (Nat.le_refl _) (by omega) (kk q _ (hR.fresh hdd) hR.pushS)
theorem l_getG (C : Cx p s m meth c cc nL args Ts own D cA A) {mu : Mu} {w0 : va_W} (hR : LR cA w0 ws mu) {a : Nat} {x : ceG} {index : Nat} {ref : String} {v : Value} (hx : mG mu a = some x) (k : Nat) (hk : k < 4) (hlink : Cond.fieldLink own index ref (TJ4 k).2.1 (TJ4 k).2.2.1 ∈ W0) (href : ref = (TJ4 k).1) (hv : (fG x)[k]? = some v) (hdg : decode cc pc = .ok (.getfield index, 3))
    (kk : Kf p l e R s m args below meth c D A nL cells slots Q ws (pc + 3) lv (v :: st)) : Kf p l e R s m args below meth c D A nL cells slots Q ws pc lv (.ref a :: st) := by
  obtain ⟨i, hi⟩ := List.getElem?_of_mem (hR.G hx)
  exact k_get C inW_J4 i k hi rfl hk hlink href hv hdg kk
theorem l_putG (C : Cx p s m meth c cc nL args Ts own D cA A) {mu : Mu} {w0 : va_W} (hR : LR cA w0 ws mu) {a : Nat} {x x1 : ceG} {index : Nat} {ref : String} {v : Value} {ty : FieldType} (hx : mG mu a = some x) (k : Nat) (hk : k < 4) (hlink : Cond.fieldLink own index ref (TJ4 k).2.1 (TJ4 k).2.2.1 ∈ W0) (href : ref = (TJ4 k).1) (hfin : (TJ4 k).2.2.2 = false) (hd : tyJ4 k = ty) (hn : narrow ty v = v) (hfit : fits ty v = true) (hfs : (fG x).set k v = fG x1) (hdg : decode cc pc = .ok (.putfield index, 3))
    (kk : ∀ w1, LR cA w0 w1 (sG mu a x1) → Kf p l e R s m args below meth c D A nL cells slots Q w1 (pc + 3) lv st) : Kf p l e R s m args below meth c D A nL cells slots Q ws pc lv (v :: .ref a :: st) := by
  obtain ⟨i, hi⟩ := List.getElem?_of_mem (hR.G hx)
  refine k_dist (fun hdd => ?_)
  exact k_put C inW_J4 tyJ4 tyJ4_ok nmJ4 i k hi rfl hk hlink href hfin hd hn hfit hk hfs rfl hdg (kk _ (hR.setG hdd hx hi))
theorem l_newG (C : Cx p s m meth c cc nL args Ts own D cA A) {mu : Mu} {w0 : va_W} (hR : LR cA w0 ws mu) {u index : Nat} (hcl : Cond.classLink own index RJ4 ∈ W0) (hinst : Cond.instantiable RJ4 4 ∈ W0) (hini : Cond.initialized RJ4 ∈ W0) (hcells : u + 1 ≤ R.cells) (hslots : 16 * (u + 1) ≤ R.slots) (hdg : decode cc pc = .ok (.new index, 3))
    (kk : ∀ (q : Nat) (w1 : va_W), frM mu q → LR cA w0 w1 (sG mu q (none, 0, 0, 0)) → Kf p l e R s m args below meth c D A nL (u + 1) (16 * (u + 1)) Q w1 (pc + 3) lv (.ref q :: st)) : Kf p l e R s m args below meth c D A nL (u) (16 * (u)) Q ws (pc) lv (st) := by
  refine k_new C (ci := 12) (T := TJ4) (fs := fG (none, 0, 0, 0)) inW_J4 tyJ4 tyJ4_ok hcl hinst hini rfl df_G hcells (by omega) hdg (fun q => ?_)
  refine k_dist (fun hdd => ?_)
  exact k_widen (Nat.le_refl _) (by omega) (kk q _ (hR.fresh hdd) hR.pushG)
theorem l_iald (C : Cx p s m meth c cc nL args Ts own D cA A) {mu : Mu} {w0 : va_W} (hR : LR cA w0 ws mu) {a n k : Nat} {f : Nat → Int32} (hx : mI mu a = some (n, f)) (hk : k < n) (hn : n ≤ 1000) (hdg : decode cc pc = .ok (.iaload, 1))
    (kk : Kf p l e R s m args below meth c D A nL cells slots Q ws (pc + 1) lv (.int (f k) :: st)) : Kf p l e R s m args below meth c D A nL cells slots Q ws pc lv (.int (nI k) :: .ref a :: st) := by
  obtain ⟨i, hi⟩ := List.getElem?_of_mem (hR.I hx)
  refine k_iald C i hi (vp_in_nI hk (by omega)) hdg ?_
  rw [nI_clamp (by omega)]
  exact kk
theorem l_iast (C : Cx p s m meth c cc nL args Ts own D cA A) {mu : Mu} {w0 : va_W} (hR : LR cA w0 ws mu) {a n k : Nat} {f : Nat → Int32} {x : Int32} (hx : mI mu a = some (n, f)) (hk : k < n) (hn : n ≤ 1000) (hdg : decode cc pc = .ok (.iastore, 1))
    (kk : ∀ w1, LR cA w0 w1 (sI mu a (n, upd f k x)) → Kf p l e R s m args below meth c D A nL cells slots Q w1 (pc + 1) lv st) : Kf p l e R s m args below meth c D A nL cells slots Q ws pc lv (.int x :: .int (nI k) :: .ref a :: st) := by
  obtain ⟨i, hi⟩ := List.getElem?_of_mem (hR.I hx)
  refine k_dist (fun hdd => ?_)
  refine k_iast C i hi (vp_in_nI hk (by omega)) rfl hdg ?_
  rw [nI_clamp (by omega)]
  exact kk _ (hR.setI hdd (ne04 C) (x := (n, f)) (x1 := (n, upd f k x)) hx hi)
theorem l_alen (C : Cx p s m meth c cc nL args Ts own D cA A) {mu : Mu} {w0 : va_W} (hR : LR cA w0 ws mu) {a n : Nat} {f : Nat → Int32} (hx : mI mu a = some (n, f)) (hdg : decode cc pc = .ok (.arraylength, 1))
    (kk : Kf p l e R s m args below meth c D A nL cells slots Q ws (pc + 1) lv (.int (nI n) :: st)) : Kf p l e R s m args below meth c D A nL cells slots Q ws pc lv (.ref a :: st) := by
  obtain ⟨i, hi⟩ := List.getElem?_of_mem (hR.I hx)
  exact k_alen C i 0 hi rfl rfl hdg kk
theorem l_alenQ (C : Cx p s m meth c cc nL args Ts own D cA A) {mu : Mu} {w0 : va_W} (hR : LR cA w0 ws mu) {a t n : Nat} {f : Nat → Option Nat} (ht : t = 2 ∨ t = 3) (hx : mQ mu a = some (t, n, f)) (hdg : decode cc pc = .ok (.arraylength, 1))
    (kk : Kf p l e R s m args below meth c D A nL cells slots Q ws (pc + 1) lv (.int (nI n) :: st)) : Kf p l e R s m args below meth c D A nL cells slots Q ws pc lv (.ref a :: st) := by
  obtain ⟨i, hi⟩ := List.getElem?_of_mem (hR.Q hx)
  rcases ht with rfl | rfl
  · exact k_alen C i 2 hi rfl rfl hdg kk
  · exact k_alen C i 3 hi rfl rfl hdg kk
theorem l_aald (C : Cx p s m meth c cc nL args Ts own D cA A) {mu : Mu} {w0 : va_W} (hR : LR cA w0 ws mu) {a t n k : Nat} {f : Nat → Option Nat} (ht : t = 2 ∨ t = 3) (hx : mQ mu a = some (t, n, f)) (hk : k < n) (hn : n ≤ 1000) (hdg : decode cc pc = .ok (.aaload, 1))
    (kk : Kf p l e R s m args below meth c D A nL cells slots Q ws (pc + 1) lv (va_rf (f k) :: st)) : Kf p l e R s m args below meth c D A nL cells slots Q ws pc lv (.int (nI k) :: .ref a :: st) := by
  obtain ⟨i, hi⟩ := List.getElem?_of_mem (hR.Q hx)
  rcases ht with rfl | rfl
  · exact fun H locs ls hP hD hS hl => va_aldq C.1.1 C.1.2.1 C.2.1.1 hP i 2 hi rfl (vp_in_nI hk (show n < 2 ^ 31 by omega)) hdg (by rw [nI_clamp (by omega)]; exact kk H locs ls hP hD hS hl)
  · exact fun H locs ls hP hD hS hl => va_aldq C.1.1 C.1.2.1 C.2.1.1 hP i 3 hi rfl (vp_in_nI hk (show n < 2 ^ 31 by omega)) hdg (by rw [nI_clamp (by omega)]; exact kk H locs ls hP hD hS hl)
theorem l_aastP (C : Cx p s m meth c cc nL args Ts own D cA A) {mu : Mu} {w0 : va_W} (hR : LR cA w0 ws mu) {a n k b : Nat} {f : Nat → Option Nat} {x : ceP} (hx : mQ mu a = some (2, n, f)) (hb : mP mu b = some x) (hk : k < n) (hn : n ≤ 1000) (hdg : decode cc pc = .ok (.aastore, 1))
    (kk : ∀ w1, LR cA w0 w1 (sQ mu a (2, n, va_up f k (some b))) → Kf p l e R s m args below meth c D A nL cells slots Q w1 (pc + 1) lv st) : Kf p l e R s m args below meth c D A nL cells slots Q ws pc lv (.ref b :: .int (nI k) :: .ref a :: st) := by
  obtain ⟨i, hi⟩ := List.getElem?_of_mem (hR.Q hx)
  obtain ⟨j, hj⟩ := List.getElem?_of_mem (hR.P hb)
  refine k_dist (fun hdd => ?_)
  exact fun H locs ls hP hD hS hl => va_astq (r := (RX8, TX8, 4)) C.1.1 C.1.2.1 C.2.1.1 hP hD hS i 2 j 8 hi rfl hj rfl (vp_in_nI hk (show n < 2 ^ 31 by omega)) hdg (fun H locs hP hD hS => by
    rw [nI_clamp (by omega)] at hP hD
    exact kk _ (hR.setQ hdd (x := (2, n, f)) (x1 := (2, n, va_up f k (some b))) hx hi) H locs ls hP hD hS hl)
theorem l_aastB (C : Cx p s m meth c cc nL args Ts own D cA A) {mu : Mu} {w0 : va_W} (hR : LR cA w0 ws mu) {a n k b : Nat} {f : Nat → Option Nat} {x : ceB} (hx : mQ mu a = some (3, n, f)) (hb : mB mu b = some x) (hk : k < n) (hn : n ≤ 1000) (hdg : decode cc pc = .ok (.aastore, 1))
    (kk : ∀ w1, LR cA w0 w1 (sQ mu a (3, n, va_up f k (some b))) → Kf p l e R s m args below meth c D A nL cells slots Q w1 (pc + 1) lv st) : Kf p l e R s m args below meth c D A nL cells slots Q ws pc lv (.ref b :: .int (nI k) :: .ref a :: st) := by
  obtain ⟨i, hi⟩ := List.getElem?_of_mem (hR.Q hx)
  obtain ⟨j, hj⟩ := List.getElem?_of_mem (hR.B hb)
  refine k_dist (fun hdd => ?_)
  exact fun H locs ls hP hD hS hl => va_astq (r := (RX7, TX7, 10)) C.1.1 C.1.2.1 C.2.1.1 hP hD hS i 3 j 7 hi rfl hj rfl (vp_in_nI hk (show n < 2 ^ 31 by omega)) hdg (fun H locs hP hD hS => by
    rw [nI_clamp (by omega)] at hP hD
    exact kk _ (hR.setQ hdd (x := (3, n, f)) (x1 := (3, n, va_up f k (some b))) hx hi) H locs ls hP hD hS hl)
theorem l_aastN (C : Cx p s m meth c cc nL args Ts own D cA A) {mu : Mu} {w0 : va_W} (hR : LR cA w0 ws mu) {a n k : Nat} {f : Nat → Option Nat} (hx : mQ mu a = some (3, n, f)) (hk : k < n) (hn : n ≤ 1000) (hdg : decode cc pc = .ok (.aastore, 1))
    (kk : ∀ w1, LR cA w0 w1 (sQ mu a (3, n, va_up f k none)) → Kf p l e R s m args below meth c D A nL cells slots Q w1 (pc + 1) lv st) : Kf p l e R s m args below meth c D A nL cells slots Q ws pc lv (.null :: .int (nI k) :: .ref a :: st) := by
  obtain ⟨i, hi⟩ := List.getElem?_of_mem (hR.Q hx)
  refine k_dist (fun hdd => ?_)
  exact fun H locs ls hP hD hS hl => va_astqN C.1.1 C.1.2.1 C.2.1.1 hP hD hS i 3 hi rfl (vp_in_nI hk (show n < 2 ^ 31 by omega)) hdg (fun H locs hP hD hS => by
    rw [nI_clamp (by omega)] at hP hD
    exact kk _ (hR.setQ hdd (x := (3, n, f)) (x1 := (3, n, va_up f k none)) hx hi) H locs ls hP hD hS hl)
theorem l_newI (C : Cx p s m meth c cc nL args Ts own D cA A) {mu : Mu} {w0 : va_W} (hR : LR cA w0 ws mu) {u N : Nat} (hN : N ≤ 1000) (hcells : u + (1 + N / 16) ≤ R.cells) (hslots : 16 * (u + (1 + N / 16)) ≤ R.slots) (hdg : decode cc pc = .ok (.newarray .int, 2))
    (kk : ∀ (q : Nat) (w1 : va_W), frM mu q → LR cA w0 w1 (sI mu q (N, fun _ => 0)) → Kf p l e R s m args below meth c D A nL (u + (1 + N / 16)) (16 * (u + (1 + N / 16))) Q w1 (pc + 2) lv (.ref q :: st)) : Kf p l e R s m args below meth c D A nL (u) (16 * (u)) Q ws (pc) lv (.int (nI N) :: st) := by
  refine k_newa C (N := N) (nI_pos (by omega)) (nI_clamp (by omega)) (by omega) (by omega) (by omega) hdg (fun q => ?_)
  refine k_dist (fun hdd => ?_)
  exact k_widen (by omega) (by omega) (kk q _ (hR.fresh hdd) (hR.pushI (x := (N, fun _ => 0))))
theorem l_newQ2 (C : Cx p s m meth c cc nL args Ts own D cA A) {mu : Mu} {w0 : va_W} (hR : LR cA w0 ws mu) (hF : FN s) {u N index : Nat} (hcl : Cond.classLink own index "WidowWatchLaw$Para" ∈ W0) (hN : N ≤ 1000) (hcells : u + (1 + N / 16) ≤ R.cells) (hslots : 16 * (u + (1 + N / 16)) ≤ R.slots) (hdg : decode cc pc = .ok (.anewarray index, 3))
    (kk : ∀ (q : Nat) (w1 : va_W), frM mu q → LR cA w0 w1 (sQ mu q (2, N, fun _ => none)) → Kf p l e R s m args below meth c D A nL (u + (1 + N / 16)) (16 * (u + (1 + N / 16))) Q w1 (pc + 3) lv (.ref q :: st)) : Kf p l e R s m args below meth c D A nL (u) (16 * (u)) Q ws (pc) lv (.int (nI N) :: st) :=
  fun H locs ls hP hD hS hl => va_newq C.1.1 C.1.2.1 C.1.2.2.2.1 (C.w hcl) hF.2.1 C.2.1.1 hP hD hS C.2.2.1 (nI_pos (by omega)) (nI_clamp (n := N) (by omega)) (by omega) (by omega) (by omega) hdg (fun q cB H1 hK hP hD hS => by
    obtain ⟨-, -, -, -, -, h1⟩ := (hK.2 5 (cB, .object "WidowWatchLaw$Para") rfl).2
    obtain ⟨-, -, -, -, -, h2⟩ := (C.2.1.1.2 2 (cA 2, .object "WidowWatchLaw$Para") rfl).2
    cases Option.some.inj (h1.symm.trans h2)
    exact k_widen (by omega) (by omega) (kk q _ (hR.fresh hD.1) (hR.pushQ (x := (2, N, fun _ => none)))) H1 locs ls hP hD hS hl)
theorem l_newQ3 (C : Cx p s m meth c cc nL args Ts own D cA A) {mu : Mu} {w0 : va_W} (hR : LR cA w0 ws mu) (hF : FN s) {u N index : Nat} (hcl : Cond.classLink own index "WidowWatchLaw$Book" ∈ W0) (hN : N ≤ 1000) (hcells : u + (1 + N / 16) ≤ R.cells) (hslots : 16 * (u + (1 + N / 16)) ≤ R.slots) (hdg : decode cc pc = .ok (.anewarray index, 3))
    (kk : ∀ (q : Nat) (w1 : va_W), frM mu q → LR cA w0 w1 (sQ mu q (3, N, fun _ => none)) → Kf p l e R s m args below meth c D A nL (u + (1 + N / 16)) (16 * (u + (1 + N / 16))) Q w1 (pc + 3) lv (.ref q :: st)) : Kf p l e R s m args below meth c D A nL (u) (16 * (u)) Q ws (pc) lv (.int (nI N) :: st) :=
  fun H locs ls hP hD hS hl => va_newq C.1.1 C.1.2.1 C.1.2.2.2.1 (C.w hcl) hF.2.2.1 C.2.1.1 hP hD hS C.2.2.1 (nI_pos (by omega)) (nI_clamp (n := N) (by omega)) (by omega) (by omega) (by omega) hdg (fun q cB H1 hK hP hD hS => by
    obtain ⟨-, -, -, -, -, h1⟩ := (hK.2 5 (cB, .object "WidowWatchLaw$Book") rfl).2
    obtain ⟨-, -, -, -, -, h2⟩ := (C.2.1.1.2 3 (cA 3, .object "WidowWatchLaw$Book") rfl).2
    cases Option.some.inj (h1.symm.trans h2)
    exact k_widen (by omega) (by omega) (kk q _ (hR.fresh hD.1) (hR.pushQ (x := (3, N, fun _ => none)))) H1 locs ls hP hD hS hl)
theorem l_idiv (C : Cx p s m meth c cc nL args Ts own D cA A) {x y : Int32} (hdg : decode cc pc = .ok (.idiv, 1)) (hne : ¬ y = 0) (kk : Kf p l e R s m args below meth c D A nL cells slots Q ws (pc + 1) lv (.int (x / y) :: st)) : Kf p l e R s m args below meth c D A nL cells slots Q ws pc lv (.int y :: .int x :: st) :=
  fun H locs ls hP hD hS hl => lv_idiv C.1.1 C.1.2.1 hdg hne (kk H locs ls hP hD hS hl)
theorem l_iushr (C : Cx p s m meth c cc nL args Ts own D cA A) {x y v : Int32} (hdg : decode cc pc = .ok (.iushr, 1)) (hv : (x.toUInt32 >>> (y.toUInt32 &&& Int32.toUInt32 31)).toInt32 = v) (kk : Kf p l e R s m args below meth c D A nL cells slots Q ws (pc + 1) lv (.int v :: st)) : Kf p l e R s m args below meth c D A nL cells slots Q ws pc lv (.int y :: .int x :: st) :=
  fun H locs ls hP hD hS hl => lv_iushr C.1.1 C.1.2.1 hdg hv (kk H locs ls hP hD hS hl)
theorem l_null (C : Cx p s m meth c cc nL args Ts own D cA A) (hdg : decode cc pc = .ok (.aconst_null, 1)) (kk : Kf p l e R s m args below meth c D A nL cells slots Q ws (pc + 1) lv (.null :: st)) : Kf p l e R s m args below meth c D A nL cells slots Q ws pc lv st :=
  fun H locs ls hP hD hS hl => lv_null C.1.1 C.1.2.1 hdg (kk H locs ls hP hD hS hl)
theorem l_ifnullN (C : Cx p s m meth c cc nL args Ts own D cA A) {off : Int} {tgt : Nat} (hdg : decode cc pc = .ok (.ifnull off, 3)) (ht : (pc : Int) + off = (tgt : Int)) (kk : Kf p l e R s m args below meth c D A nL cells slots Q ws tgt lv st) : Kf p l e R s m args below meth c D A nL cells slots Q ws pc lv (.null :: st) :=
  fun H locs ls hP hD hS hl => lv_ifnullN C.1.1 C.1.2.1 hdg ht (kk H locs ls hP hD hS hl)
theorem l_ifnull (C : Cx p s m meth c cc nL args Ts own D cA A) {off : Int} {x : Nat} (hdg : decode cc pc = .ok (.ifnull off, 3)) (kk : Kf p l e R s m args below meth c D A nL cells slots Q ws (pc + 3) lv st) : Kf p l e R s m args below meth c D A nL cells slots Q ws pc lv (.ref x :: st) :=
  fun H locs ls hP hD hS hl => lv_ifnull C.1.1 C.1.2.1 hdg (kk H locs ls hP hD hS hl)
theorem l_ifnonnull (C : Cx p s m meth c cc nL args Ts own D cA A) {off : Int} {tgt x : Nat} (hdg : decode cc pc = .ok (.ifnonnull off, 3)) (ht : (pc : Int) + off = (tgt : Int)) (kk : Kf p l e R s m args below meth c D A nL cells slots Q ws tgt lv st) : Kf p l e R s m args below meth c D A nL cells slots Q ws pc lv (.ref x :: st) :=
  fun H locs ls hP hD hS hl => lv_ifnonnull C.1.1 C.1.2.1 hdg ht (kk H locs ls hP hD hS hl)
theorem l_runV (C : Cx p s m meth c cc nL args Ts own D cA A) (hF : FN s) {y : MethodName} {bytes : ByteArray} {maxL index n mc ms : Nat} {b : Nat} {ret : Option FieldType} {ci q0 : Nat} {Cn : String} {fs : List Value} {q : vw_C} {wy : List Cond} {rm : Room} {wc : va_W} {As st0 rest : List Value} {Post : Option Value → va_W → Prop} (hM : ConN l D cA y wy rm wc (.ref b :: As) mc ms Post) (cw : CallW R s args own Cn index y bytes maxL ret wy rm mc ms n) (hq : wc[q0]? = some (b, .inr (ci, fs))) (hc : vwCl[ci]? = some q) (hCn : q.1 = Cn) (hn : As.length = n) (hst : st0 = As.reverse ++ .ref b :: rest) (hr : (rest.map fun v => v.category).sum ≤ 8) (hdg : decode cc pc = .ok (.invokevirtual index, 3)) (hf : cells + mc ≤ R.cells ∧ slots + ms ≤ R.slots) : KR p l e R s m args below meth c D A nL cells slots pc st0 rest wc mc ms Post := by
  intro H locs ls hP hD hA hS hl
  subst hCn
  have hp := k_preN (av := .ref b :: As) C hF hP hD hA hS
  exact ⟨_, va_runV (As := As) (rest := rest) C.1 (hM H.size) cw ⟨hp.1, va_recv C.2.1.1 hP hc hq, hp.2⟩ rfl hn hl hst (lv_room hr) hdg hf⟩
theorem l_runS (C : Cx p s m meth c cc nL args Ts own D cA A) (hF : FN s) {y : MethodName} {bytes : ByteArray} {maxL index n mc ms : Nat} {ret : Option FieldType} {wy : List Cond} {rm : Room} {wc : va_W} {As st0 rest : List Value} {Post : Option Value → va_W → Prop} (hM : ConN l D cA y wy rm wc As mc ms Post) (cw : CallB R s args own index y bytes maxL ret wy rm mc ms n ∧ (Cond.static y).before args s = true) (hn : As.length = n) (hst : st0 = As.reverse ++ rest) (hr : (rest.map fun v => v.category).sum ≤ 8) (hdg : decode cc pc = .ok (.invokestatic index, 3)) (hf : cells + mc ≤ R.cells ∧ slots + ms ≤ R.slots) : KR p l e R s m args below meth c D A nL cells slots pc st0 rest wc mc ms Post := by
  intro H locs ls hP hD hA hS hl
  exact ⟨_, va_runS (As := As) (rest := rest) C.1 (hM H.size) cw (k_preN (av := As) C hF hP hD hA hS) rfl hn hl hst (lv_room hr) hdg hf⟩
theorem l_runSN (C : Cx p s m meth c cc nL args Ts own D cA A) (hF : FN s) {y : MethodName} {bytes : ByteArray} {maxL index n mc ms : Nat} {host : String} {ret : Option FieldType} {wy : List Cond} {rm : Room} {wc : va_W} {As st0 rest : List Value} {Post : Option Value → va_W → Prop} (hM : ConN l D cA y wy rm wc As mc ms Post) (cw : va_CN R s args own index y host bytes maxL ret wy rm mc ms n ∧ (Cond.static y).before args s = true ∧ True) (hn : As.length = n) (hst : st0 = As.reverse ++ rest) (hr : (rest.map fun v => v.category).sum ≤ 8) (hdg : decode cc pc = .ok (.invokestatic index, 3)) (hf : cells + mc ≤ R.cells ∧ slots + ms ≤ R.slots) : KR p l e R s m args below meth c D A nL cells slots pc st0 rest wc mc ms Post := by
  intro H locs ls hP hD hA hS hl
  exact ⟨_, va_runSN (As := As) (rest := rest) C.1 (hM H.size) cw (k_preN (av := As) C hF hP hD hA hS) rfl hn hl hst (lv_room hr) hdg hf⟩
theorem l_runIN (C : Cx p s m meth c cc nL args Ts own D cA A) (hF : FN s) {y : MethodName} {bytes : ByteArray} {maxL index n mc ms : Nat} {b : Nat} {host : String} {wy : List Cond} {rm : Room} {wc : va_W} {As st0 rest : List Value} {Post : Option Value → va_W → Prop} (hM : ConN l D cA y wy rm wc (.ref b :: As) mc ms Post) (cw : va_CN R s args own index y host bytes maxL none wy rm mc ms n ∧ y.name = "<init>" ∧ (Cond.instanceMethod y).before args s = true) (hn : As.length = n) (hst : st0 = As.reverse ++ .ref b :: rest) (hr : (rest.map fun v => v.category).sum ≤ 8) (hdg : decode cc pc = .ok (.invokespecial index, 3)) (hf : cells + mc ≤ R.cells ∧ slots + ms ≤ R.slots) : KR p l e R s m args below meth c D A nL cells slots pc st0 rest wc mc ms Post := by
  intro H locs ls hP hD hA hS hl
  exact ⟨_, va_runIN (As := As) (rest := rest) C.1 (hM H.size) cw (k_preN (av := .ref b :: As) C hF hP hD hA hS) rfl hn hl hst (lv_room hr) hdg hf⟩
theorem k_callAr {mc ms : Nat} {st0 rest : List Value} {P : Nat → va_W → Prop} (C : Cx p s m meth c cc nL args Ts own D cA A) (hr : KR p l e R s m args below meth c D A nL cells slots pc st0 rest ws mc ms (PR P))
    (kk : ∀ (r : Nat) (w1 : va_W), P r w1 → Kf p l e R s m args below meth c D A nL (cells + mc) (slots + ms) Q w1 (pc + 3) lv (.ref r :: rest)) : Kf p l e R s m args below meth c D A nL cells slots Q ws pc lv st0 :=
  k_callA C hr (fun v w1 ⟨r, e, h⟩ => by subst e; exact kk r w1 h)
theorem k_sl {u v : Nat} {st : List Value} (kk : Kf p l e R s m args below meth c D A nL (u + v) (16 * (u + v)) Q ws pc lv st) : Kf p l e R s m args below meth c D A nL (u + v) (16 * u + 16 * v) Q ws pc lv st := by
  rw [← Nat.mul_add]
  exact kk
theorem l_putFS (C : Cx p s m meth c cc nL args Ts own D cA A) {mu : Mu} {w0 : va_W} (hR : LR cA w0 ws mu) {a : Nat} {x x1 : ceS} {index : Nat} {ref : String} {v : Value} {ty : FieldType} (hx : mS mu a = some x) (k : Nat) (hk : k < 4) (hlink : Cond.fieldLink own index ref (TJ0 k).2.1 (TJ0 k).2.2.1 ∈ W0) (href : ref = (TJ0 k).1) (hfin : (TJ0 k).2.2.2 = true) (hini : meth.name = "<init>") (hdecl : (TJ0 k).1 = own) (hd : tyJ0 k = ty) (hn : narrow ty v = v) (hfit : fits ty v = true) (hfs : (fS x).set k v = fS x1) (hdg : decode cc pc = .ok (.putfield index, 3))
    (kk : ∀ w1, LR cA w0 w1 (sS mu a x1) → Kf p l e R s m args below meth c D A nL cells slots Q w1 (pc + 3) lv st) : Kf p l e R s m args below meth c D A nL cells slots Q ws pc lv (v :: .ref a :: st) := by
  obtain ⟨i, hi⟩ := List.getElem?_of_mem (hR.S hx)
  refine k_dist (fun hdd => ?_)
  exact k_putF C inW_J0 tyJ0 tyJ0_ok nmJ0 i k hi rfl hk hlink href hfin hini hdecl hd hn hfit hk hfs rfl hdg (kk _ (hR.setS hdd hx hi))
theorem l_newT (C : Cx p s m meth c cc nL args Ts own D cA A) {mu : Mu} {w0 : va_W} (hR : LR cA w0 ws mu) {u N : Nat} (hN : N ≤ 1000) (hcells : u + (1 + N / 16) ≤ R.cells) (hslots : 16 * (u + (1 + N / 16)) ≤ R.slots) (hdg : decode cc pc = .ok (.newarray .byte, 2))
    (kk : ∀ (q : Nat) (w1 : va_W), frM mu q → LR cA w0 w1 (sT mu q (N, fun _ => 0)) → Kf p l e R s m args below meth c D A nL (u + (1 + N / 16)) (16 * (u + (1 + N / 16))) Q w1 (pc + 2) lv (.ref q :: st)) : Kf p l e R s m args below meth c D A nL (u) (16 * (u)) Q ws (pc) lv (.int (nI N) :: st) :=
  fun H locs ls hP hD hS hl => va_newa (atype := .byte) (ty := .byte) (a0 := (N, .inl (fun _ => 0))) C.1.1 C.1.2.1 (C.w WARRB) rfl C.2.1.1 hP hD hS C.2.2.1 (fun _ => rfl) (nI_pos (by omega)) (nI_clamp (n := N) (by omega)) (by show N * 1 ≤ 536870912; omega) (by omega) (by show 16 * u + N ≤ R.slots; omega) hdg (fun q cB H1 hK hP hD hS => by
    have h1 : s.vm.findClass ("[" ++ FieldType.byte.toString) = some cB := (hK.2 5 (cB, .byte) rfl).2
    have h2 : s.vm.findClass ("[" ++ FieldType.byte.toString) = some (cA 4) := (C.2.1.1.2 4 (cA 4, .byte) rfl).2
    cases Option.some.inj (h1.symm.trans h2)
    exact k_widen (by omega) (by omega) (kk q _ (hR.fresh hD.1) (hR.pushT (x := (N, fun _ => 0)))) H1 locs ls hP hD hS hl)
theorem l_alenT (C : Cx p s m meth c cc nL args Ts own D cA A) {mu : Mu} {w0 : va_W} (hR : LR cA w0 ws mu) {a n : Nat} {f : Nat → Int32} (hx : mT mu a = some (n, f)) (hdg : decode cc pc = .ok (.arraylength, 1))
    (kk : Kf p l e R s m args below meth c D A nL cells slots Q ws (pc + 1) lv (.int (nI n) :: st)) : Kf p l e R s m args below meth c D A nL cells slots Q ws pc lv (.ref a :: st) := by
  obtain ⟨i, hi⟩ := List.getElem?_of_mem (hR.T hx)
  exact k_alen C i 4 hi rfl rfl hdg kk
theorem l_bald (C : Cx p s m meth c cc nL args Ts own D cA A) {mu : Mu} {w0 : va_W} (hR : LR cA w0 ws mu) {a n k : Nat} {f : Nat → Int32} (hx : mT mu a = some (n, f)) (hk : k < n) (hn : n ≤ 1000) (hdg : decode cc pc = .ok (.baload, 1))
    (kk : Kf p l e R s m args below meth c D A nL cells slots Q ws (pc + 1) lv (.int (f k) :: st)) : Kf p l e R s m args below meth c D A nL cells slots Q ws pc lv (.int (nI k) :: .ref a :: st) := by
  obtain ⟨i, hi⟩ := List.getElem?_of_mem (hR.T hx)
  exact fun H locs ls hP hD hS hl => va_bald C.1.1 C.1.2.1 C.2.1.1 hP i 4 hi rfl (vp_in_nI hk (by show n < 2 ^ 31; omega)) hdg (by rw [nI_clamp (by omega)]; exact kk H locs ls hP hD hS hl)
theorem l_copyT (C : Cx p s m meth c cc nL args Ts own D cA A) {mu : Mu} {w0 : va_W} (hR : LR cA w0 ws mu) {a0 a n0 n1 sp dp n index : Nat} {f g : Nat → Int32} (hlink : Cond.methodLink own index arraycopyName ∈ W0) (hx0 : mT mu a0 = some (n0, f)) (hx : mT mu a = some (n1, g)) (h4 : sp + n ≤ n0) (h5 : dp + n ≤ n1) (h6 : n0 ≤ 1000) (h7 : n1 ≤ 1000) (hfit : ∀ i, i < n → fits .byte (.int (f (sp + i))) = true) (hframes : 1 ≤ R.frames) (hlocals : (st.map fun v => v.category).sum + (nativeFrameWords "java/lang/System" "arraycopy" 5 + 11) ≤ R.locals) (hdg : decode cc pc = .ok (.invokestatic index, 3))
    (kk : ∀ w1, LR cA w0 w1 (sT mu a (n1, va_cpy f g sp dp n)) → Kf p l e R s m args below meth c D A nL cells slots Q w1 (pc + 3) lv st) : Kf p l e R s m args below meth c D A nL cells slots Q ws pc lv (.int (nI n) :: .int (nI dp) :: .ref a :: .int (nI sp) :: .ref a0 :: st) := by
  obtain ⟨i, hi⟩ := List.getElem?_of_mem (hR.T hx0)
  obtain ⟨j, hj⟩ := List.getElem?_of_mem (hR.T hx)
  refine k_dist (fun hdd => ?_)
  have c1 : (nI sp).toNatClampNeg = sp := nI_clamp (by omega)
  have c2 : (nI dp).toNatClampNeg = dp := nI_clamp (by omega)
  have c3 : (nI n).toNatClampNeg = n := nI_clamp (by omega)
  exact fun H locs ls hP hD hS hl => va_copyi C.1.1 C.1.2.1 (C.1.2.2.1.trans hl.1.symm) C.1.2.2.2.1 (C.w hlink) (C.w WCPN) (C.w WCPS) (C.w WCPI) C.2.1.1 hP hD hS i j 4 4 hi hj rfl rfl rfl (nI_pos (by omega)) (nI_pos (by omega)) (nI_pos (by omega)) (by rw [c1, c3]; exact h4) (by rw [c2, c3]; exact h5) (by rw [c1, c3]; exact hfit) hframes hlocals hdg (fun H1 locs1 hP hD hS => by
    rw [c1, c2, c3] at hP hD
    exact kk _ (hR.setT hdd (ne04 C) (x := (n1, g)) (x1 := (n1, va_cpy f g sp dp n)) hx hj) H1 locs1 ls hP hD hS hl)
/-- a String constant's letters -/
def sby (i : Nat) : Nat → Int32 := fun j => (strB.getD i []).getD j 0
theorem l_copyK (C : Cx p s m meth c cc nL args Ts own D cA A) {mu : Mu} {w0 : va_W} (hR : LR cA w0 ws mu) {i a n1 dp n index : Nat} {g : Nat → Int32} (hi9 : i < 10) (hlink : Cond.methodLink own index arraycopyName ∈ W0) (hx : mT mu a = some (n1, g)) (h4 : n ≤ strL.getD i 0) (h5 : dp + n ≤ n1) (h7 : n1 ≤ 1000) (hframes : 1 ≤ R.frames) (hlocals : (st.map fun v => v.category).sum + (nativeFrameWords "java/lang/System" "arraycopy" 5 + 11) ≤ R.locals) (hdg : decode cc pc = .ok (.invokestatic index, 3))
    (kk : ∀ w1, LR cA w0 w1 (sT mu a (n1, va_cpy (sby i) g 0 dp n)) → Kf p l e R s m args below meth c D A nL cells slots Q w1 (pc + 3) lv st) : Kf p l e R s m args below meth c D A nL cells slots Q ws pc lv (.int (nI n) :: .int (nI dp) :: .ref a :: .int (nI 0) :: .ref (cA (200 + i)) :: st) := by
  obtain ⟨j, hj⟩ := List.getElem?_of_mem (hR.T hx)
  refine k_dist (fun hdd => ?_)
  have c1 : (nI 0).toNatClampNeg = 0 := rfl
  have c2 : (nI dp).toNatClampNeg = dp := nI_clamp (by omega)
  have c3 : (nI n).toNatClampNeg = n := nI_clamp (by omega)
  exact fun H locs ls hP hD hS hl => vk_copyt (f := sby i) C.1.1 C.1.2.1 (C.1.2.2.1.trans hl.1.symm) C.1.2.2.2.1 (C.w hlink) (C.w WCPN) (C.w WCPS) (C.w WCPI) C.2.1.1 hP hD hS (C.2.1.2.2.2.2.1.1 i hi9).2.2.2 j 4 hj rfl (by decide) (nI_pos (by omega)) (nI_pos (by omega)) (by rw [c1, c3, Nat.zero_add]; exact h4) (by rw [c2, c3]; exact h5) (by rw [c1, c3]; exact fun q hq => sby_fit i hi9 (0 + q) (by omega)) hframes hlocals hdg (fun H1 locs1 hP hD hS => by
    rw [c1, c2, c3] at hP hD
    exact kk _ (hR.setT hdd (ne04 C) (x := (n1, g)) (x1 := (n1, va_cpy (sby i) g 0 dp n)) hx hj) H1 locs1 ls hP hD hS hl)
theorem l_ifnonnullK (C : Cx p s m meth c cc nL args Ts own D cA A) {off : Int} {tgt x : Nat} (hdg : decode cc pc = .ok (.ifnonnull off, 3)) (ht : (pc : Int) + off = (tgt : Int)) (kk : Kf p l e R s m args below meth c D A nL cells slots Q ws tgt lv st) : Kf p l e R s m args below meth c D A nL cells slots Q ws pc lv (.ref x :: st) :=
  fun H locs ls hP hD hS hl => lv_ifnonnull C.1.1 C.1.2.1 hdg ht (kk H locs ls hP hD hS hl)
theorem l_runK (C : Cx p s m meth c cc nL args Ts own D cA A) (hF : FN s) {y : MethodName} {bytes : ByteArray} {maxL index n mc ms i : Nat} {ret : Option FieldType} {wy : List Cond} {rm : Room} {wc : va_W} {As st0 rest : List Value} {Post : Option Value → va_W → Prop} (hi : i < 10) (hM : ConN l D cA y wy rm wc (.ref (cA (100 + i)) :: As) mc ms Post) (cw : CallW R s args own "java/lang/String" index y bytes maxL ret wy rm mc ms n) (hn : As.length = n) (hst : st0 = As.reverse ++ .ref (cA (100 + i)) :: rest) (hr : (rest.map fun v => v.category).sum ≤ 8) (hdg : decode cc pc = .ok (.invokevirtual index, 3)) (hf : cells + mc ≤ R.cells ∧ slots + ms ≤ R.slots) : KR p l e R s m args below meth c D A nL cells slots pc st0 rest wc mc ms Post := by
  intro H locs ls hP hD hA hS hl
  have hp := k_preN (av := .ref (cA (100 + i)) :: As) C hF hP hD hA hS
  exact ⟨_, va_runV (As := As) (rest := rest) C.1 (hM H.size) cw ⟨hp.1, vk_recv C.2.1.2.2.2.2.1 hi hS, hp.2⟩ rfl hn hl hst (lv_room hr) hdg hf⟩
theorem l_runSU (C : Cx p s m meth c cc nL args Ts own D cA A) (hF : FN s) {y : MethodName} {bytes : ByteArray} {maxL index n mc ms b q0 : Nat} {ret : Option FieldType} {fs : List Value} {wy : List Cond} {rm : Room} {wc : va_W} {As st0 rest : List Value} {Post : Option Value → va_W → Prop} (hM : ConN l D cA y wy rm wc (.ref b :: As) mc ms Post) (cw : va_CS R s args own index y bytes maxL ret wy rm mc ms n) (hq : wc[q0]? = some (b, .inr (12, fs))) (hn : As.length = n) (hst : st0 = As.reverse ++ .ref b :: rest) (hr : (rest.map fun v => v.category).sum ≤ 8) (hdg : decode cc pc = .ok (.invokespecial index, 3)) (hf : cells + mc ≤ R.cells ∧ slots + ms ≤ R.slots) : KR p l e R s m args below meth c D A nL cells slots pc st0 rest wc mc ms Post := by
  intro H locs ls hP hD hA hS hl
  have hp := k_preN (av := .ref b :: As) C hF hP hD hA hS
  exact ⟨_, va_runSU (As := As) (rest := rest) (C.2.1.1.1 12 (RJ4, TJ4, 4) rfl).2 C.1 (hM H.size) cw ⟨hp.1, va_recv C.2.1.1 hP (q := (RJ4, TJ4, 4)) rfl hq, hp.2⟩ rfl hn hl hst (lv_room hr) hdg hf⟩
theorem l_runU (C : Cx p s m meth c cc nL args Ts own D cA A) (hF : FN s) {x y : MethodName} {bytes : ByteArray} {maxL index n mc ms b q0 : Nat} {ret : Option FieldType} {fs : List Value} {wy : List Cond} {rm : Room} {wc : va_W} {As st0 rest : List Value} {Post : Option Value → va_W → Prop} (hM : ConN l D cA y wy rm wc (.ref b :: As) mc ms Post) (cw : va_CU R s args own "java/lang/StringBuilder" "java/lang/AbstractStringBuilder" index x y bytes maxL ret wy rm mc ms n) (hq : wc[q0]? = some (b, .inr (12, fs))) (hn : As.length = n) (hst : st0 = As.reverse ++ .ref b :: rest) (hr : (rest.map fun v => v.category).sum ≤ 8) (hdg : decode cc pc = .ok (.invokevirtual index, 3)) (hf : cells + mc ≤ R.cells ∧ slots + ms ≤ R.slots) : KR p l e R s m args below meth c D A nL cells slots pc st0 rest wc mc ms Post := by
  intro H locs ls hP hD hA hS hl
  have hp := k_preN (av := .ref b :: As) C hF hP hD hA hS
  exact ⟨_, va_runU (As := As) (rest := rest) C.1 (hM H.size) cw ⟨hp.1, va_recv C.2.1.1 hP (q := (RJ4, TJ4, 4)) rfl hq, hp.2⟩ rfl hn hl hst (lv_room hr) hdg hf⟩
theorem l_cwU (C : Cx p s m meth c cc nL args Ts own D cA A) {Cn owner : String} {x y : MethodName} {bytes b0 : ByteArray} {maxL m0 index n mc ms : Nat} {ret r0 : Option FieldType} {rm : Room} (hc : Cond.code y bytes maxL ret ∈ W0) (hini : Cond.initialized y.cls ∈ W0) (hmh : owner ≠ "java/lang/invoke/MethodHandle" ∧ owner ≠ "java/lang/invoke/VarHandle") (hd : okY x n) (hl : Cond.methodLink own index x ∈ W0) (hsa : Cond.sameMethod x.cls owner x.name x.desc ∈ W0) (hix : Cond.instanceMethod ⟨owner, x.name, x.desc⟩ ∈ W0) (hcx : Cond.code ⟨owner, x.name, x.desc⟩ b0 m0 r0 ∈ W0) (hse : Cond.selects Cn x y ∈ W0) (hin : Cond.instanceMethod y ∈ W0) (hrc : rm.cells = mc) (hrs : rm.slots = ms) (hR : rm.frames + 1 ≤ R.frames ∧ 8 + (maxL + 11) + rm.locals ≤ R.locals) : va_CU R s args own Cn owner index x y bytes maxL ret (wm y bytes maxL ret) rm mc ms n :=
  ⟨⟨hrc, hrs, hR.1, hR.2, pay_in C.1.2.2.2.2 (k_payW C hc), List.mem_cons_self⟩, C.w hc, C.w hini, hmh, fun sig h => by
    have h2 := hd.2.2
    rw [h] at h2
    exact (Option.some.inj h2).symm, C.w hl, C.w hsa, va_Decl.of (C.w hix) (C.w hcx), C.w hse, C.w hin⟩
theorem l_cwSU (C : Cx p s m meth c cc nL args Ts own D cA A) {y : MethodName} {bytes : ByteArray} {maxL index n mc ms : Nat} {ret : Option FieldType} {rm : Room} (hc : Cond.code y bytes maxL ret ∈ W0) (hl : Cond.methodLink own index y ∈ W0) (hsa : Cond.sameMethod y.cls y.cls y.name y.desc ∈ W0) (hsu : Cond.superclass own y.cls ∈ W0) (hin : Cond.instanceMethod y ∈ W0) (hini : Cond.initialized y.cls ∈ W0) (hd : okY y n) (hno : y.name ≠ "<init>") (hrc : rm.cells = mc) (hrs : rm.slots = ms) (hR : rm.frames + 1 ≤ R.frames ∧ 8 + (maxL + 11) + rm.locals ≤ R.locals) : va_CS R s args own index y bytes maxL ret (wm y bytes maxL ret) rm mc ms n :=
  ⟨⟨hrc, hrs, hR.1, hR.2, pay_in C.1.2.2.2.2 (k_payW C hc), List.mem_cons_self⟩, C.w hl, C.w hsa, C.w hsu, C.w hin, C.w hini, C.w hc, hno, fun sig h => by
    have h2 := hd.2.2
    rw [h] at h2
    exact (Option.some.inj h2).symm⟩
/-- a private method of the builder's upper class, on a builder -/
theorem l_selG (hF : FN s) {y : MethodName} (i : Nat) (hy : kPv[i]? = some y) : (Cond.selects "java/lang/StringBuilder" y y).before args s = true := va_Nw.use rfl (hF.2.2.2.2 y (List.mem_of_getElem? hy))
theorem l_clone (C : Cx p s m meth c cc nL args Ts own D cA A) {mu : Mu} {w0 : va_W} (hR : LR cA w0 ws mu) (hF : FN s) {a u N index : Nat} {f : Nat → Int32} (hx : mI mu a = some (N, f)) (hN : N ≤ 1000) (hlink : Cond.methodLink own index ⟨"[I", "clone", "()Ljava/lang/Object;"⟩ ∈ W0) (hr : (st.map fun v => v.category).sum ≤ 8) (hframes : 1 ≤ R.frames) (hlocals : 22 ≤ R.locals) (hcells : u + (1 + N / 16) ≤ R.cells) (hslots : 16 * (u + (1 + N / 16)) ≤ R.slots) (hdg : decode cc pc = .ok (.invokevirtual index, 3))
    (kk : ∀ (q : Nat) (w1 : va_W), frM mu q → LR cA w0 w1 (sI mu q (N, f)) → Kf p l e R s m args below meth c D A nL (u + (1 + N / 16)) (16 * (u + (1 + N / 16))) Q w1 (pc + 3) lv (.ref q :: st)) : Kf p l e R s m args below meth c D A nL (u) (16 * (u)) Q ws (pc) lv (.ref a :: st) := by
  obtain ⟨i, hi⟩ := List.getElem?_of_mem (hR.I hx)
  exact fun H locs ls hP hD hS hl => va_clone C.1.1 C.1.2.1 (C.1.2.2.1.trans hl.1.symm) C.1.2.2.2.1 (C.w hlink) (C.w W2_106) (C.w W2_107) (C.w W2_108) (C.w W2_109) hF.2.2.2.1 C.2.1.1 hP hD hS C.2.2.1 i 0 hi rfl (by have h9 := (C.2.1.1.2 0 (cA 0, .int) rfl).2; exact h9) (fun j v hv => va_fit (F := fun j => .int (f j)) (n := N) (cA := cA 0) (fun _ _ => rfl) j v hv) hframes (by omega) (by show u + 1 ≤ R.cells; omega) (by show 16 * u + N ≤ R.slots; omega) hdg (fun q H1 hK hP hD hS =>
    k_widen (by show u + 1 ≤ u + (1 + N / 16); omega) (by show 16 * u + N ≤ 16 * (u + (1 + N / 16)); omega) (kk q _ (hR.fresh hD.1) (hR.pushI (x := (N, f)))) H1 locs ls hP hD hS hl)
theorem l_castI (C : Cx p s m meth c cc nL args Ts own D cA A) {mu : Mu} {w0 : va_W} (hR : LR cA w0 ws mu) {a n index : Nat} {f : Nat → Int32} (hlink : Cond.classLink own index "[I" ∈ W0) (hx : mI mu a = some (n, f)) (hdg : decode cc pc = .ok (.checkcast index, 3)) (kk : Kf p l e R s m args below meth c D A nL cells slots Q ws (pc + 3) lv (.ref a :: st)) : Kf p l e R s m args below meth c D A nL cells slots Q ws pc lv (.ref a :: st) := by
  obtain ⟨i, hi⟩ := List.getElem?_of_mem (hR.I hx)
  exact fun H locs ls hP hD hS hl => va_castA C.1.1 C.1.2.1 C.1.2.2.2.1 (C.w hlink) hP i hi (by have h9 := (C.2.1.1.2 0 (cA 0, .int) rfl).2; exact h9) hdg (kk H locs ls hP hD hS hl)
theorem l_putFB (C : Cx p s m meth c cc nL args Ts own D cA A) {mu : Mu} {w0 : va_W} (hR : LR cA w0 ws mu) {a : Nat} {x x1 : ceB} {index : Nat} {ref : String} {v : Value} {ty : FieldType} (hx : mB mu a = some x) (k : Nat) (hk : k < 10) (hlink : Cond.fieldLink own index ref (TX7 k).2.1 (TX7 k).2.2.1 ∈ W0) (href : ref = (TX7 k).1) (hfin : (TX7 k).2.2.2 = true) (hini : meth.name = "<init>") (hdecl : (TX7 k).1 = own) (hd : tyX7 k = ty) (hn : narrow ty v = v) (hfit : fits ty v = true) (hfs : (fB x).set k v = fB x1) (hdg : decode cc pc = .ok (.putfield index, 3))
    (kk : ∀ w1, LR cA w0 w1 (sB mu a x1) → Kf p l e R s m args below meth c D A nL cells slots Q w1 (pc + 3) lv st) : Kf p l e R s m args below meth c D A nL cells slots Q ws pc lv (v :: .ref a :: st) := by
  obtain ⟨i, hi⟩ := List.getElem?_of_mem (hR.B hx)
  refine k_dist (fun hdd => ?_)
  exact k_putF C inW_X7 tyX7 tyX7_ok nmX7 i k hi rfl hk hlink href hfin hini hdecl hd hn hfit hk hfs rfl hdg (kk _ (hR.setB hdd hx hi))
end LK
