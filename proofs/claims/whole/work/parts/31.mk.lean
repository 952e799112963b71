/-! SEVERAL DIMENSIONS AT ONCE: 'multianewarray' of any depth, level by level. -/
def mkO (c : ClassId) (N h0 K : Nat) : Nat → Cell
  | 0 => { cls := c, slots := Array.replicate N .null, vm := .none }
  | i + 1 => (mkO c N h0 K i).setSlot i (.ref (h0 + 1 + i * K))
theorem mkO_facts (c : ClassId) (N h0 K : Nat) : ∀ i, (mkO c N h0 K i).cls = c ∧ (mkO c N h0 K i).vm = .none ∧ (mkO c N h0 K i).slots.size = N
  | 0 => ⟨rfl, rfl, by simp [mkO]⟩
  | i + 1 => by
    obtain ⟨a, b, d⟩ := mkO_facts c N h0 K i
    exact ⟨by simp [mkO, Cell.setSlot, a], by simp [mkO, Cell.setSlot, b], by simp [mkO, Cell.setSlot, d]⟩
theorem mkO_arr (c : ClassId) (N h0 K : Nat) : ∀ i : Nat, mkO c N h0 K i = arrV c N (fun j => va_rf (if j < i then some (h0 + 1 + j * K) else none))
  | 0 => by
    show ({ cls := c, slots := Array.replicate N .null, vm := .none } : Cell) = _
    rw [arrV_new]
    refine congrArg (arrV c N) (funext fun j => ?_)
    simp [va_rf]
  | i + 1 => by
    show (mkO c N h0 K i).setSlot i (.ref (h0 + 1 + i * K)) = _
    rw [mkO_arr c N h0 K i, arrV_store]
    refine congrArg (arrV c N) (funext fun j => ?_)
    by_cases e : j = i
    · subst e
      simp [updV, va_rf]
    · by_cases h : j < i
      · simp [updV, e, h, Nat.lt_succ_of_lt h]
      · simp [updV, e, h, show ¬ j < i + 1 by omega]
def mkF (inner : State → State) (c : ClassId) (N K : Nat) (s : State) : Nat → State
  | 0 => s.pushCell (mkO c N s.heap.size K 0)
  | i + 1 => (inner (mkF inner c N K s i)).setCell s.heap.size (mkO c N s.heap.size K (i + 1))
def MkA (inner : State → State) (K M : Nat) : Prop := ∀ s : State, (inner s).heap.size = s.heap.size + K ∧ (inner s).vm = s.vm ∧ (inner s).slotsUsed = s.slotsUsed + M ∧ (∀ a : Nat, a < s.heap.size → (inner s).heap[a]? = s.heap[a]?) ∧ ∀ f, inner (s.setTop f) = (inner s).setTop f
section MKA
variable {inner : State → State} {K M : Nat}
theorem mkF_facts (hA : MkA inner K M) (c : ClassId) (N : Nat) (s : State) : ∀ i : Nat, (mkF inner c N K s i).heap.size = s.heap.size + 1 + i * K ∧ (mkF inner c N K s i).heap[s.heap.size]? = some (mkO c N s.heap.size K i) ∧ (mkF inner c N K s i).vm = s.vm ∧ (mkF inner c N K s i).slotsUsed = s.slotsUsed + N + i * M
  | 0 => ⟨by simp [mkF], by simp [mkF], rfl, by simp [mkF, mkO]⟩
  | i + 1 => by
    obtain ⟨a, b, d, u⟩ := mkF_facts hA c N s i
    obtain ⟨i1, i2, i3, i4, i5⟩ := hA (mkF inner c N K s i)
    have hlt : s.heap.size < (mkF inner c N K s i).heap.size := by rw [a]; omega
    have hb' : (inner (mkF inner c N K s i)).heap[s.heap.size]? = some (mkO c N s.heap.size K i) := by rw [i4 _ hlt]; exact b
    refine ⟨?_, State.heap_setCell_self hb', ?_, ?_⟩
    · have : ((inner (mkF inner c N K s i)).setCell s.heap.size (mkO c N s.heap.size K (i + 1))).heap.size = (inner (mkF inner c N K s i)).heap.size := by simp [State.setCell]
      show ((inner (mkF inner c N K s i)).setCell s.heap.size (mkO c N s.heap.size K (i + 1))).heap.size = _
      rw [this, i1, a, Nat.succ_mul]
      omega
    · show ((inner (mkF inner c N K s i)).setCell s.heap.size (mkO c N s.heap.size K (i + 1))).vm = _
      exact i2.trans d
    · show ((inner (mkF inner c N K s i)).setCell s.heap.size (mkO c N s.heap.size K (i + 1))).slotsUsed = _
      have : ((inner (mkF inner c N K s i)).setCell s.heap.size (mkO c N s.heap.size K (i + 1))).slotsUsed = (inner (mkF inner c N K s i)).slotsUsed := by simp [State.setCell]
      rw [this, i3, u, Nat.succ_mul]
      omega
theorem mkF_old (hA : MkA inner K M) (c : ClassId) (N : Nat) (s : State) {a : Nat} (ha : a < s.heap.size) : ∀ i : Nat, (mkF inner c N K s i).heap[a]? = s.heap[a]?
  | 0 => State.heap_pushCell_of_lt _ _ ha
  | i + 1 => by
    obtain ⟨f1, -⟩ := mkF_facts hA c N s i
    obtain ⟨i1, i2, i3, i4, i5⟩ := hA (mkF inner c N K s i)
    show ((inner (mkF inner c N K s i)).setCell s.heap.size _).heap[a]? = _
    rw [State.heap_setCell_other (Nat.ne_of_gt ha), i4 a (by rw [f1]; omega)]
    exact mkF_old hA c N s ha i
theorem mkF_in (hA : MkA inner K M) (c : ClassId) (N : Nat) (s : State) {j b : Nat} (h1 : s.heap.size + 1 + j * K ≤ b) (h2 : b < s.heap.size + 1 + (j + 1) * K) : ∀ i : Nat, j < i → (mkF inner c N K s i).heap[b]? = (inner (mkF inner c N K s j)).heap[b]?
  | 0, h => absurd h (Nat.not_lt_zero _)
  | i + 1, h => by
    obtain ⟨f1, -⟩ := mkF_facts hA c N s i
    obtain ⟨i1, i2, i3, i4, i5⟩ := hA (mkF inner c N K s i)
    show ((inner (mkF inner c N K s i)).setCell s.heap.size _).heap[b]? = _
    rw [State.heap_setCell_other (show s.heap.size ≠ b by omega)]
    rcases Nat.lt_or_ge j i with hj | hj
    · have := Nat.mul_le_mul_right K (show j + 1 ≤ i from hj)
      rw [i4 b (by rw [f1]; omega)]
      exact mkF_in hA c N s h1 h2 i hj
    · rw [show j = i by omega]
theorem mkF_top (hA : MkA inner K M) (c : ClassId) (N : Nat) (s : State) (f : JFrame) : ∀ i : Nat, mkF inner c N K (s.setTop f) i = (mkF inner c N K s i).setTop f
  | 0 => rfl
  | i + 1 => by simp only [mkF, mkF_top hA c N s f i, State.heap_setTop, (hA _).2.2.2.2, State.setCell_setTop]
theorem MkA.up (hA : MkA inner K M) (c : ClassId) (N : Nat) : MkA (fun s => mkF inner c N K s N) (1 + N * K) (N + N * M) := fun s => by
  obtain ⟨a, b, d, u⟩ := mkF_facts hA c N s N
  exact ⟨by rw [a]; omega, d, by rw [u]; omega, fun x hx => mkF_old hA c N s hx N, fun f => mkF_top hA c N s f N⟩
theorem mkA_1 (c : ClassId) (M : Nat) : MkA (fun s => s.pushCell (Jvm.Free.Multi.innerC c M (.int 0))) 1 M := fun s => ⟨by simp, rfl, by simp [Jvm.Free.Multi.innerC], fun a ha => State.heap_pushCell_of_lt _ _ ha, fun f => State.pushCell_setTop ..⟩
def MkS (inner : State → State) (K M : Nat) : Prop := ∀ {p : Program} {l : Launch} {e : Env} {R : Room} {s : State} {m : MethodId} {args : Array Value} {below : List Frame} {meth : Method} {c : Code} {T : State} {locs : List Loc} {cells slots : Nat}, Stand p l e R s m args below meth c T locs cells slots → Stand p l e R s m args below meth c (inner T) locs (cells + K) (slots + M)
theorem mkS_1 (c : ClassId) (M : Nat) : MkS (fun s => s.pushCell (Jvm.Free.Multi.innerC c M (.int 0))) 1 M := fun X => by
  have h := X.pushed (Jvm.Free.Multi.innerC c M (.int 0))
  have e1 : (Jvm.Free.Multi.innerC c M (.int 0)).slots.size = M := by simp [Jvm.Free.Multi.innerC]
  rw [e1] at h
  exact h
theorem MkS.fill (hA : MkA inner K M) (hS : MkS inner K M) (cl : ClassId) (N : Nat) {p : Program} {l : Launch} {e : Env} {R : Room} {s : State} {m : MethodId} {args : Array Value} {below : List Frame} {meth : Method} {c : Code} {T : State} {locs : List Loc} {cells slots : Nat} (X : Stand p l e R s m args below meth c T locs cells slots) :
    ∀ i : Nat, Stand p l e R s m args below meth c (mkF inner cl N K T i) locs (cells + 1 + i * K) (slots + N + i * M)
  | 0 => by
    have h := X.pushed (mkO cl N T.heap.size K 0)
    rw [(mkO_facts cl N T.heap.size K 0).2.2] at h
    simpa [mkF] using h
  | i + 1 => by
    have Xi := MkS.fill hA hS cl N X i
    obtain ⟨f1, f2, f3, f4⟩ := mkF_facts hA cl N T i
    obtain ⟨i1, i2, i3, i4, i5⟩ := hA (mkF inner cl N K T i)
    have hcell : (inner (mkF inner cl N K T i)).heap[T.heap.size]? = some (mkO cl N T.heap.size K i) := by rw [i4 _ (by rw [f1]; omega)]; exact f2
    have h := ((hS Xi).stored hcell i (.ref (T.heap.size + 1 + i * K))).dropFresh (fun x hx => by rw [List.mem_singleton.mp hx]; exact X.heapGrown)
    have e3 : slots + N + (i + 1) * M = slots + N + i * M + M := by rw [Nat.succ_mul]; omega
    have e4 : cells + 1 + (i + 1) * K = cells + 1 + i * K + K := by rw [Nat.succ_mul]; omega
    rw [e3, e4]
    exact h
theorem MkS.up (hA : MkA inner K M) (hS : MkS inner K M) (cl : ClassId) (N : Nat) : MkS (fun s => mkF inner cl N K s N) (1 + N * K) (N + N * M) := fun {_ _ _ _ _ _ _ _ _ _ _ _ cells slots} X => by
  have h := MkS.fill hA hS cl N X N
  rw [show cells + (1 + N * K) = cells + 1 + N * K by omega, show slots + (N + N * M) = slots + N + N * M by omega]
  exact h
def MkW (e : Env) (V : Vm → Prop) (inner : State → State) (c : ClassId) (counts : List Int32) (K M : Nat) : Prop :=
  ∀ (E : CtlPost) (d : Bool) (acts : List Action) (s : State) (Q : Addr → Pre), V s.vm → s.heap.size + K ≤ e.platform.maxCells → s.slotsUsed + M ≤ e.platform.maxSlots → (∀ d' acts', Q s.heap.size d' acts' (inner s)) → wp (Jvm.Op.multianewarray.make c counts) Q E e d acts s
theorem mkW_1 (e : Env) (c : ClassId) {m : Int32} {M : Nat} (hM : m.toNatClampNeg = M) (hm : ¬ m < 0) (hl2 : ¬ M > e.platform.arrayLengthLimit) (hh2 : ¬ M * 4 > e.platform.maxHeapBytes) :
    MkW e (fun vm => ∃ (k : Class) (cc : ClassId), vm.classes[c]? = some k ∧ k.kind = .array cc .int) (fun s => s.pushCell (Jvm.Free.Multi.innerC c M (.int 0))) c [m] 1 M := by
  subst hM
  intro E d acts s Q ⟨k, cc, h1, h2⟩ hc hs hq
  exact Jvm.Free.Multi.wp_make1 h1 h2 hm hl2 hh2 rfl rfl (by omega) (by omega) (hq d acts)
set_option maxHeartbeats 1000000 in
theorem MkW.up {e : Env} {V : Vm → Prop} {comp c : ClassId} {m0 : Int32} {rest0 : List Int32} {n : Int32} {N : Nat} (hN : n.toNatClampNeg = N) (hA : MkA inner K M) (hW : MkW e V inner comp (m0 :: rest0) K M) (hn : ¬ n < 0) (hfind : ((m0 :: rest0).find? (· < 0)) = none) (hl1 : ¬ N > e.platform.arrayLengthLimit) (hh1 : ¬ N * 4 > e.platform.maxHeapBytes) :
    MkW e (fun vm => V vm ∧ ∃ (k : Class) (t0 : FieldType), vm.classes[c]? = some k ∧ k.kind = .array comp (.array t0)) (fun s => mkF inner c N K s N) c (n :: m0 :: rest0) (1 + N * K) (N + N * M) := by
  subst hN
  intro E d acts s Q ⟨hV, k, t0, hk, hkind⟩ hc hs hq
  have href : (FieldType.array t0).isReference = true := rfl
  rw [Jvm.Op.multianewarray.make]
  simp only [wp_bind', Jvm.W.ite, hn, if_false, wp_pure', Jvm.W.theClass, hk, hkind, Option.some.injEq, exists_eq_left']
  refine Jvm.Free.Multi.wp_newArray hk hkind hl1 hh1 (Jvm.Free.Multi.refFits href _ (Or.inl rfl)) rfl (by omega) (by have := Nat.zero_le (n.toNatClampNeg * M); omega) ?_
  simp only [hfind]
  rw [ite_self, wp_bind', Std.Legacy.Range.forIn_eq_forIn_range']
  have hsz : ([:n.toNatClampNeg] : Std.Legacy.Range).size = n.toNatClampNeg := by simp [Std.Legacy.Range.size]
  rw [hsz]
  show wp (forIn (List.range' 0 n.toNatClampNeg 1) PUnit.unit _) _ E e d acts _
  refine wp_forIn_inv (fun rest s' => ∃ i, i ≤ n.toNatClampNeg ∧ rest = List.range' i (n.toNatClampNeg - i) ∧ s' = mkF inner c n.toNatClampNeg K s i) _ _ ⟨0, Nat.zero_le _, rfl, rfl⟩ ?_ ?_
  · rintro x rest s' d' acts' Q' ⟨i, hi, hl, rfl⟩ hnext
    have hlt : i < n.toNatClampNeg := by
      rcases Nat.lt_or_ge i n.toNatClampNeg with h | h
      · exact h
      · rw [show n.toNatClampNeg - i = 0 from by omega] at hl; simp at hl
    obtain ⟨rfl, hrest⟩ : x = i ∧ rest = List.range' (i + 1) (n.toNatClampNeg - (i + 1)) := by
      rw [show n.toNatClampNeg - i = (n.toNatClampNeg - (i + 1)) + 1 from by omega, List.range'_succ] at hl
      exact ⟨(List.cons.inj hl).1, (List.cons.inj hl).2⟩
    obtain ⟨f1, f2, f3, f4⟩ := mkF_facts hA c n.toNatClampNeg s x
    obtain ⟨o1, o2, o3⟩ := mkO_facts c n.toNatClampNeg s.heap.size K x
    obtain ⟨i1, i2, i3, i4, i5⟩ := hA (mkF inner c n.toNatClampNeg K s x)
    have hmul : x * M + M ≤ n.toNatClampNeg * M := by
      have := Nat.mul_le_mul_right M (show x + 1 ≤ n.toNatClampNeg from hlt)
      rw [Nat.succ_mul] at this; exact this
    have hmulK : x * K + K ≤ n.toNatClampNeg * K := by
      have := Nat.mul_le_mul_right K (show x + 1 ≤ n.toNatClampNeg from hlt)
      rw [Nat.succ_mul] at this; exact this
    simp only [wp_bind']
    refine hW _ _ _ _ _ (by rw [f3]; exact hV) (by rw [f1]; omega) (by rw [f4]; omega) (fun d'' acts'' => ?_)
    have hlt0 : s.heap.size < (mkF inner c n.toNatClampNeg K s x).heap.size := by rw [f1]; omega
    simp only [wp_bind', Jvm.W.writeLoc, wp_pure']
    refine ⟨mkO c n.toNatClampNeg s.heap.size K x, by rw [i4 _ hlt0]; exact f2, by rw [o2]; simp, by rw [o3]; exact hlt, ?_, hnext _ _ _ ⟨x + 1, hlt, hrest, ?_⟩⟩
    · rw [o1, o2]
      simp [State.fitsSlot, State.slotType?, i2, f3, hk, hkind, Jvm.Free.Multi.refFits href _ (Or.inr ⟨_, rfl⟩)]
    · rw [f1]; rfl
  · rintro s' d' acts' ⟨i, hi, hl, rfl⟩
    have hiN : i = n.toNatClampNeg := by
      rcases Nat.lt_or_ge i n.toNatClampNeg with h | h
      · rw [show n.toNatClampNeg - i = (n.toNatClampNeg - (i + 1)) + 1 from by omega, List.range'_succ] at hl; cases hl
      · omega
    subst hiN
    simp only [wp_pure']
    exact hq _ _
end MKA
