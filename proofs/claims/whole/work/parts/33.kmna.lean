/-! the rows of new arrays of arrays -/
theorem sA2 : "[" ++ (FieldType.array .int).toString = "[[I" := by decide +kernel
theorem sA3 : "[" ++ (FieldType.array (.array .int)).toString = "[[[I" := by decide +kernel
theorem sA4 : "[" ++ (FieldType.array (.array (.array .int))).toString = "[[[[I" := by decide +kernel
theorem sA1 : "[" ++ FieldType.int.toString = "[I" := by decide +kernel
theorem sA1' : (FieldType.array .int).toString = "[I" := by decide +kernel
def v1 (q i : Nat) : Nat := q + 1 + i * 97
def v2 (q a : Nat) : Nat := q + 1 + a / 3 * 97 + 1 + a % 3 * 32
def v3 (q b : Nat) : Nat := v2 q (b / 31) + 1 + b % 31
theorem v23 (q i j : Nat) : v2 q i ≠ v3 q j := by
  unfold v3 v2
  have h1 : i % 3 < 3 := Nat.mod_lt _ (by decide)
  have h2 : j / 31 % 3 < 3 := Nat.mod_lt _ (by decide)
  have h3 : j % 31 < 31 := Nat.mod_lt _ (by decide)
  generalize i % 3 = b at *
  generalize j / 31 % 3 = d at *
  generalize j % 31 = w at *
  generalize i / 3 = a at *
  generalize j / 31 / 3 = u at *
  rcases Nat.lt_trichotomy a u with h | h | h <;> omega
theorem v13 (q i j : Nat) : v1 q i ≠ v3 q j := by
  unfold v3 v2 v1
  have h2 : j / 31 % 3 < 3 := Nat.mod_lt _ (by decide)
  have h3 : j % 31 < 31 := Nat.mod_lt _ (by decide)
  generalize j / 31 % 3 = d at *
  generalize j % 31 = w at *
  generalize j / 31 / 3 = u at *
  rcases Nat.lt_trichotomy i u with h | h | h <;> omega
/-- the cells of an array of arrays of ints -/
def mRows (cA : Nat → ClassId) (q N K : Nat) : va_W := (List.range N).map fun i => (q + 1 + i, .inl (cA 0, K, .inl (fun _ => 0)))
def mRows1 (cA : Nat → ClassId) (q : Nat) : va_W := (List.range 16).map fun i => (v1 q i, .inl (cA 3, 3, rfs (fun j => v2 q (3 * i + j))))
def mRows2 (cA : Nat → ClassId) (q : Nat) : va_W := (List.range 48).map fun a => (v2 q a, .inl (cA 2, 31, rfs (fun j => v3 q (31 * a + j))))
def mRows3 (cA : Nat → ClassId) (q : Nat) : va_W := (List.range 1488).map fun b => (v3 q b, .inl (cA 0, 41, .inl (fun _ => 0)))
theorem innerC_cell (k : ClassId) (n : Nat) : Jvm.Free.Multi.innerC k n (.int 0) = vp_cell k (n, .inl (fun _ => 0)) := by
  rw [vp_cell_i]
  exact arrV_new k n (.int 0)
theorem pw_map {α : Type} {f : Nat → Nat × α} {n : Nat} (h : ∀ i j, i < j → j < n → (f i).1 ≠ (f j).1) : ((List.range n).map f).Pairwise (fun p q => p.1 ≠ q.1) := by
  rw [List.pairwise_map]
  refine List.pairwise_iff_getElem.mpr fun i j hi hj hij => ?_
  rw [List.getElem_range, List.getElem_range]
  exact h i j hij (by simpa using hj)
theorem mRows_D (cA : Nat → ClassId) {A : Nat → Prop} {q N K : Nat} (x : va_E) (hA : ∀ a, q ≤ a → A a) : va_D A ((q, x) :: mRows cA q N K) := by
  refine va_D_iff.mpr ⟨List.pairwise_cons.mpr ⟨fun y hy => ?_, pw_map fun i j h _ => ?_⟩, fun y hy => ?_⟩
  · obtain ⟨i, -, rfl⟩ := List.mem_map.mp hy
    show q ≠ q + 1 + i
    omega
  · show q + 1 + i ≠ q + 1 + j
    omega
  · rcases List.mem_cons.mp hy with rfl | hy
    · exact hA _ (Nat.le_refl _)
    · obtain ⟨i, -, rfl⟩ := List.mem_map.mp hy
      exact hA _ (by show q ≤ q + 1 + i; omega)
theorem mRows4_D (cA : Nat → ClassId) {A : Nat → Prop} {q : Nat} (x : va_E) (hA : ∀ a, q ≤ a → A a) : va_D A ((q, x) :: (mRows1 cA q ++ (mRows2 cA q ++ mRows3 cA q))) := by
  refine va_D_iff.mpr ⟨List.pairwise_cons.mpr ⟨fun y hy => ?_, List.pairwise_append.mpr ⟨pw_map fun i j h _ => ?_, List.pairwise_append.mpr ⟨pw_map fun i j h _ => ?_, pw_map fun i j h _ => ?_, fun y hy z hz => ?_⟩, fun y hy z hz => ?_⟩⟩, fun y hy => ?_⟩
  · rcases List.mem_append.mp hy with hy | hy
    · obtain ⟨i, -, rfl⟩ := List.mem_map.mp hy
      show q ≠ v1 q i
      unfold v1; omega
    · rcases List.mem_append.mp hy with hy | hy
      · obtain ⟨i, -, rfl⟩ := List.mem_map.mp hy
        show q ≠ v2 q i
        unfold v2; omega
      · obtain ⟨i, -, rfl⟩ := List.mem_map.mp hy
        show q ≠ v3 q i
        unfold v3 v2; omega
  · show v1 q i ≠ v1 q j
    unfold v1; omega
  · show v2 q i ≠ v2 q j
    unfold v2; omega
  · show v3 q i ≠ v3 q j
    unfold v3 v2; omega
  · obtain ⟨i, -, rfl⟩ := List.mem_map.mp hy
    obtain ⟨j, -, rfl⟩ := List.mem_map.mp hz
    exact v23 q i j
  · obtain ⟨i, -, rfl⟩ := List.mem_map.mp hy
    rcases List.mem_append.mp hz with hz | hz
    · obtain ⟨j, -, rfl⟩ := List.mem_map.mp hz
      show v1 q i ≠ v2 q j
      unfold v1 v2; omega
    · obtain ⟨j, -, rfl⟩ := List.mem_map.mp hz
      exact v13 q i j
  · rcases List.mem_cons.mp hy with rfl | hy
    · exact hA _ (Nat.le_refl _)
    · rcases List.mem_append.mp hy with hy | hy
      · obtain ⟨i, -, rfl⟩ := List.mem_map.mp hy
        exact hA _ (by show q ≤ v1 q i; unfold v1; omega)
      · rcases List.mem_append.mp hy with hy | hy
        · obtain ⟨i, -, rfl⟩ := List.mem_map.mp hy
          exact hA _ (by show q ≤ v2 q i; unfold v2; omega)
        · obtain ⟨i, -, rfl⟩ := List.mem_map.mp hy
          exact hA _ (by show q ≤ v3 q i; unfold v3 v2; omega)
theorem va_P_mem {D : va_G} {cl : List vw_C} {ws : va_W} {H : Heap} (h : ∀ q ∈ ws, va_at D cl q H) : va_P D cl ws H := fun _ q hk => h q (List.mem_of_getElem? hk)
theorem va_grow {D : va_G} {A : Nat → Prop} {ws new : va_W} {H0 H H1 : Heap} {locs : List Loc} (hP : va_P D vwCl ws H) (hD : va_D A ws) (hS : va_S A H0 H locs) (hA : ∀ q, H0.size ≤ q → A q) (hz : H.size ≤ H1.size) (ho : ∀ a : Nat, a < H.size → H1[a]? = H[a]?) (hn : ∀ q ∈ new, va_at D vwCl q H1) (hd : va_D A new) (hge : ∀ q ∈ new, H.size ≤ q.1) :
    va_P D vwCl (ws ++ new) H1 ∧ va_D A (ws ++ new) ∧ va_S A H0 H1 locs := by
  refine ⟨(hP.kept (fun k x hx => ho x.1 ((hP k x hx).lt))).app (va_P_mem hn), hD.app hd (fun i j p q hi hj => ?_), ⟨Nat.le_trans hS.1 hz, fun x h1 h2 => (ho x (Nat.lt_of_lt_of_le h1 hS.1)).trans (hS.2.1 x h1 h2), hS.2.2⟩⟩
  have h1 := (hP i p hi).lt
  have h2 := hge q (List.mem_of_getElem? hj)
  omega
section KM
variable {p : Program} {l : Launch} {e : Env} {R : Room} {s : State} {m : MethodId} {args : Array Value} {below : List Frame} {meth : Method} {c : Code} {D : va_G} {A : Nat → Prop} {nL cells slots : Nat} {Q : State → Prop} {ws : va_W} {pc : Nat} {lv : List (Nat × Value)} {st : List Value}
variable {cc : ByteArray} {Ts : List Cond} {own : String} {cA : Nat → ClassId}
theorem k_mna2 (C : Cx p s m meth c cc nL args Ts own D cA A) (hF : FN s) {index : Nat} (hcl : Cond.classLink own index "[[I" ∈ W0) {n k : Int32} {N K : Nat} (hn : ¬ n < 0) (hk : ¬ k < 0) (hN : n.toNatClampNeg = N) (hK : k.toNatClampNeg = K) (hb1 : N * 4 ≤ 536870912) (hb2 : K * 4 ≤ 536870912) (hcells : cells + (1 + N) ≤ R.cells) (hslots : slots + (N + N * K) ≤ R.slots) (hdg : decode cc pc = .ok (.multianewarray index 2, 4))
    (kk : ∀ q : Nat, Kf p l e R s m args below meth c D A nL (cells + 1 + N) (slots + N + N * K) Q (ws ++ ((q, .inl (cA 2, N, rfs (fun i => q + 1 + i))) :: mRows cA q N K)) (pc + 4) lv (.ref q :: st)) : Kf p l e R s m args below meth c D A nL cells slots Q ws pc lv (.int k :: .int n :: st) := by
  subst hN
  subst hK
  intro H locs ls hP hD hS hl T hT X
  have r2 : s.vm.findClass ("[" ++ (FieldType.array .int).toString) = some (cA 2) := (C.2.1.1.2 2 (cA 2, .array .int) rfl).2
  have r1 : s.vm.findClass ("[" ++ FieldType.int.toString) = some (cA 0) := (C.2.1.1.2 0 (cA 0, .int) rfl).2
  obtain ⟨vm₁, kA, comp, -, fA, fC, -, -, X', step⟩ := X.multianewarray2F (ty := .int) C.1.1 C.1.2.2.2.1 (by rw [sA2]; exact C.w hcl) (va_AOA.use hF.2.1) (C.w tW_1_77) (g := F0 m pc ls (.int k :: .int n :: st)) rfl (by rw [C.1.2.1]; exact hdg) rfl hn hk hb1 (by exact hb2) (by omega) rfl rfl hcells hslots
  cases Option.some.inj (r2.symm.trans fA)
  rw [sA1'] at fC
  rw [sA1] at r1
  cases Option.some.inj (r1.symm.trans fC)
  have hTh : (T.setVm vm₁).heap = H := hT
  obtain ⟨f1, f2, -, -⟩ := Jvm.Free.Multi.fill_facts (T.setVm vm₁) (cA 2) (cA 0) n.toNatClampNeg k.toNatClampNeg (defaultValue .int) n.toNatClampNeg
  have hold : ∀ x : Nat, x < H.size → (Jvm.Free.Multi.fill (T.setVm vm₁) (cA 2) (cA 0) n.toNatClampNeg k.toNatClampNeg (defaultValue .int) n.toNatClampNeg).heap[x]? = H[x]? := fun x hx => by
    have := Jvm.Free.Multi.fill_old (T.setVm vm₁) (cA 2) (cA 0) n.toNatClampNeg k.toNatClampNeg (defaultValue .int) (a := x) (by rw [hTh]; exact hx) n.toNatClampNeg
    rw [hTh] at this
    exact this
  have hrow := Jvm.Free.Multi.fill_inner (T.setVm vm₁) (cA 2) (cA 0) n.toNatClampNeg k.toNatClampNeg (defaultValue .int) n.toNatClampNeg
  generalize Jvm.Free.Multi.fill (T.setVm vm₁) (cA 2) (cA 0) n.toNatClampNeg k.toNatClampNeg (defaultValue .int) n.toNatClampNeg = F at X' step f1 f2 hold hrow
  rw [hTh] at f1 f2 hrow
  obtain ⟨g1, g2, g3⟩ := va_grow (new := (H.size, .inl (cA 2, n.toNatClampNeg, rfs (fun i => H.size + 1 + i))) :: mRows cA H.size n.toNatClampNeg k.toNatClampNeg) hP hD hS C.2.2.1 (H1 := F.heap) (by rw [f1]; omega) hold (fun x hx => by
      rcases List.mem_cons.mp hx with rfl | hx
      · show F.heap[H.size]? = some (vp_cell _ _)
        rw [f2, vr_outer, vp_cell_q]
        exact congrArg some (arrV_congr fun j hj => by simp [hj])
      · obtain ⟨i, hi, rfl⟩ := List.mem_map.mp hx
        show F.heap[H.size + 1 + i]? = some (vp_cell _ _)
        rw [hrow i (List.mem_range.mp hi)]
        exact congrArg some (innerC_cell _ _)) (mRows_D cA _ (fun a ha => C.2.2.1 a (Nat.le_trans hS.1 ha))) (fun x hx => by
      rcases List.mem_cons.mp hx with rfl | hx
      · exact Nat.le_refl _
      · obtain ⟨i, -, rfl⟩ := List.mem_map.mp hx
        show H.size ≤ H.size + 1 + i
        omega)
  obtain ⟨t, a1, b1⟩ := kk H.size F.heap locs ls g1 g2 g3 hl F rfl X'
  refine ⟨t, step t ?_, b1⟩
  have e : T.heap.size = H.size := by rw [hT]
  rw [e]
  exact a1
theorem k_mna4 (C : Cx p s m meth c cc nL args Ts own D cA A) (hF : FN s) {index : Nat} (hcl : Cond.classLink own index "[[[[I" ∈ W0) (hcells : cells + 1553 ≤ R.cells) (hslots : slots + 62560 ≤ R.slots) (hdg : decode cc pc = .ok (.multianewarray index 4, 4))
    (kk : ∀ q : Nat, Kf p l e R s m args below meth c D A nL (cells + 1553) (slots + 62560) Q (ws ++ ((q, .inl (cA 4, 16, rfs (v1 q))) :: (mRows1 cA q ++ (mRows2 cA q ++ mRows3 cA q)))) (pc + 4) lv (.ref q :: st)) : Kf p l e R s m args below meth c D A nL cells slots Q ws pc lv (.int 41 :: .int 31 :: .int 3 :: .int 16 :: st) := by
  intro H locs ls hP hD hS hl T hT X
  have r4 : s.vm.findClass "[[[[I" = some (cA 4) := by rw [← sA4]; exact (C.2.1.1.2 4 (cA 4, .array (.array (.array .int))) rfl).2
  have r3 : s.vm.findClass "[[[I" = some (cA 3) := by rw [← sA3]; exact (C.2.1.1.2 3 (cA 3, .array (.array .int)) rfl).2
  have r2 : s.vm.findClass "[[I" = some (cA 2) := by rw [← sA2]; exact (C.2.1.1.2 2 (cA 2, .array .int) rfl).2
  have r1 : s.vm.findClass "[I" = some (cA 0) := by rw [← sA1]; exact (C.2.1.1.2 0 (cA 0, .int) rfl).2
  obtain ⟨vm₁, X', step⟩ := mna4_step X C.1.1 C.1.2.2.2.1 (C.w hcl) hF (C.w tW_1_77) r4 r3 r2 r1 (g := F0 m pc ls (.int 41 :: .int 31 :: .int 3 :: .int 16 :: st)) rfl (by rw [C.1.2.1]; exact hdg) rfl hcells hslots
  have hTh : (T.setVm vm₁).heap = H := hT
  obtain ⟨f1, -, -, hold, -⟩ := mkA_I4 (cA 4) (cA 3) (cA 2) (cA 0) (T.setVm vm₁)
  obtain ⟨h0, h1, h2, h3⟩ := mk4_cells (c4 := cA 4) (c3 := cA 3) (c2 := cA 2) (c1 := cA 0) (T.setVm vm₁) (q := H.size) (by rw [hTh])
  generalize mkI4 (cA 4) (cA 3) (cA 2) (cA 0) (T.setVm vm₁) = F at X' step f1 hold h0 h1 h2 h3
  rw [hTh] at f1 hold
  obtain ⟨g1, g2, g3⟩ := va_grow (new := (H.size, .inl (cA 4, 16, rfs (v1 H.size))) :: (mRows1 cA H.size ++ (mRows2 cA H.size ++ mRows3 cA H.size))) hP hD hS C.2.2.1 (H1 := F.heap) (by rw [f1]; omega) hold (fun x hx => by
      rcases List.mem_cons.mp hx with rfl | hx
      · show F.heap[H.size]? = some (vp_cell _ _)
        rw [h0, mkO_arr, vp_cell_q]
        exact congrArg some (arrV_congr fun j hj => by simp [hj, v1])
      · rcases List.mem_append.mp hx with hx | hx
        · obtain ⟨i, hi, rfl⟩ := List.mem_map.mp hx
          have hi := List.mem_range.mp hi
          show F.heap[v1 H.size i]? = some (vp_cell _ _)
          rw [show v1 H.size i = H.size + 1 + i * 97 from rfl, h1 i hi, mkO_arr, vp_cell_q]
          refine congrArg some (arrV_congr fun j hj => ?_)
          have e : v2 H.size (3 * i + j) = H.size + 1 + i * 97 + 1 + j * 32 := by unfold v2; omega
          simp [hj, e]
        · rcases List.mem_append.mp hx with hx | hx
          · obtain ⟨a, ha, rfl⟩ := List.mem_map.mp hx
            have ha := List.mem_range.mp ha
            show F.heap[v2 H.size a]? = some (vp_cell _ _)
            rw [show v2 H.size a = H.size + 1 + a / 3 * 97 + 1 + a % 3 * 32 from rfl, h2 (a / 3) (a % 3) (by omega) (by omega), mkO_arr, vp_cell_q]
            refine congrArg some (arrV_congr fun j hj => ?_)
            have e : v3 H.size (31 * a + j) = H.size + 1 + a / 3 * 97 + 1 + a % 3 * 32 + 1 + j := by unfold v3 v2; omega
            simp [hj, e]
          · obtain ⟨b, hb, rfl⟩ := List.mem_map.mp hx
            have hb := List.mem_range.mp hb
            show F.heap[v3 H.size b]? = some (vp_cell _ _)
            rw [show v3 H.size b = H.size + 1 + b / 31 / 3 * 97 + 1 + b / 31 % 3 * 32 + 1 + b % 31 from rfl, h3 (b / 31 / 3) (b / 31 % 3) (b % 31) (by omega) (by omega) (by omega)]
            exact congrArg some (innerC_cell _ _)) (mRows4_D cA _ (fun a ha => C.2.2.1 a (Nat.le_trans hS.1 ha))) (fun x hx => by
      rcases List.mem_cons.mp hx with rfl | hx
      · exact Nat.le_refl _
      · rcases List.mem_append.mp hx with hx | hx
        · obtain ⟨i, -, rfl⟩ := List.mem_map.mp hx
          show H.size ≤ v1 H.size i
          unfold v1; omega
        · rcases List.mem_append.mp hx with hx | hx
          · obtain ⟨i, -, rfl⟩ := List.mem_map.mp hx
            show H.size ≤ v2 H.size i
            unfold v2; omega
          · obtain ⟨i, -, rfl⟩ := List.mem_map.mp hx
            show H.size ≤ v3 H.size i
            unfold v3 v2; omega)
  obtain ⟨t, a1, b1⟩ := kk H.size F.heap locs ls g1 g2 g3 hl F rfl X'
  refine ⟨t, step t ?_, b1⟩
  have e : T.heap.size = H.size := by rw [hT]
  rw [e]
  exact a1
end KM
