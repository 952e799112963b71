/-! the reference's new rows are its table -/
theorem rm_add {α : Type} (f : Nat → α) (a b : Nat) : (List.range (a + b)).map f = (List.range a).map f ++ (List.range b).map (fun i => f (a + i)) := by
  rw [List.range_add, List.map_append, List.map_map]
  rfl
theorem rm_7 {α : Type} (f : Nat → α) {N a b c d e g h : Nat} (hN : N = a + (b + (c + (d + (e + (g + h)))))) {r1 r2 r3 r4 r5 r6 r7 : List α} (h1 : (List.range a).map f = r1) (h2 : (List.range b).map (fun i => f (a + i)) = r2) (h3 : (List.range c).map (fun i => f (a + (b + i))) = r3) (h4 : (List.range d).map (fun i => f (a + (b + (c + i)))) = r4) (h5 : (List.range e).map (fun i => f (a + (b + (c + (d + i))))) = r5) (h6 : (List.range g).map (fun i => f (a + (b + (c + (d + (e + i)))))) = r6) (h7 : (List.range h).map (fun i => f (a + (b + (c + (d + (e + (g + i))))))) = r7) : (List.range N).map f = r1 ++ (r2 ++ (r3 ++ (r4 ++ (r5 ++ (r6 ++ r7))))) := by
  subst h1; subst h2; subst h3; subst h4; subst h5; subst h6; subst h7
  rw [hN, rm_add, rm_add, rm_add, rm_add, rm_add, rm_add]
theorem mT_new (cA : Nat → ClassId) (qh ql qc qw qp : Nat) : (mRows cA qh 8 555 ++ mRows cA ql 16 3 ++ mRows cA qc 17 41 ++ (mRows1 cA qw ++ (mRows2 cA qw ++ mRows3 cA qw)) ++ mRows cA qp 16 30).Perm (mT cA (fun i => qh + 1 + i) (fun i => ql + 1 + i) (fun i => qc + 1 + i) (fun i => qp + 1 + i) (v1 qw) (v2 qw) (v3 qw) (fun _ _ => 0) (fun _ _ => 0) (fun _ _ => 0) (fun _ _ => 0) (fun _ _ _ _ => 0)) := by
  have e : mT cA (fun i => qh + 1 + i) (fun i => ql + 1 + i) (fun i => qc + 1 + i) (fun i => qp + 1 + i) (v1 qw) (v2 qw) (v3 qw) (fun _ _ => 0) (fun _ _ => 0) (fun _ _ => 0) (fun _ _ => 0) (fun _ _ _ _ => 0) = mRows cA qh 8 555 ++ (mRows cA ql 16 3 ++ (mRows cA qc 17 41 ++ (mRows cA qp 16 30 ++ (mRows1 cA qw ++ (mRows2 cA qw ++ mRows3 cA qw))))) := by
    unfold mT mRows mRows1 mRows2 mRows3
    refine rm_7 (a := 8) (b := 16) (c := 17) (d := 16) (e := 16) (g := 48) (h := 1488) _ rfl ?_ ?_ ?_ ?_ ?_ ?_ ?_
    · refine List.map_congr_left fun i hi => ?_
      have hi := List.mem_range.mp hi
      unfold mC
      rw [if_pos hi]
    · refine List.map_congr_left fun i hi => ?_
      have hi := List.mem_range.mp hi
      show mC _ _ _ _ _ _ _ _ _ _ _ _ _ (8 + i) = _
      unfold mC
      rw [if_neg (by omega), if_pos (by omega), show 8 + i - 8 = i by omega]
    · refine List.map_congr_left fun i hi => ?_
      have hi := List.mem_range.mp hi
      show mC _ _ _ _ _ _ _ _ _ _ _ _ _ (8 + (16 + i)) = _
      unfold mC
      rw [if_neg (by omega), if_neg (by omega), if_pos (by omega), show 8 + (16 + i) - 24 = i by omega]
    · refine List.map_congr_left fun i hi => ?_
      have hi := List.mem_range.mp hi
      show mC _ _ _ _ _ _ _ _ _ _ _ _ _ (8 + (16 + (17 + i))) = _
      unfold mC
      rw [if_neg (by omega), if_neg (by omega), if_neg (by omega), if_pos (by omega), show 8 + (16 + (17 + i)) - 41 = i by omega]
    · refine List.map_congr_left fun i hi => ?_
      have hi := List.mem_range.mp hi
      show mC _ _ _ _ _ _ _ _ _ _ _ _ _ (8 + (16 + (17 + (16 + i)))) = _
      unfold mC
      rw [if_neg (by omega), if_neg (by omega), if_neg (by omega), if_neg (by omega), if_pos (by omega), show 8 + (16 + (17 + (16 + i))) - 57 = i by omega]
    · refine List.map_congr_left fun i hi => ?_
      have hi := List.mem_range.mp hi
      show mC _ _ _ _ _ _ _ _ _ _ _ _ _ (8 + (16 + (17 + (16 + (16 + i))))) = _
      unfold mC
      rw [if_neg (by omega), if_neg (by omega), if_neg (by omega), if_neg (by omega), if_neg (by omega), if_pos (by omega), show 8 + (16 + (17 + (16 + (16 + i)))) - 73 = i by omega]
    · refine List.map_congr_left fun i hi => ?_
      have hi := List.mem_range.mp hi
      show mC _ _ _ _ _ _ _ _ _ _ _ _ _ (8 + (16 + (17 + (16 + (16 + (48 + i)))))) = _
      unfold mC
      rw [if_neg (by omega), if_neg (by omega), if_neg (by omega), if_neg (by omega), if_neg (by omega), if_neg (by omega), show 8 + (16 + (17 + (16 + (16 + (48 + i))))) - 121 = i by omega]
  rw [e]
  simp only [List.append_assoc]
  refine List.Perm.append_left _ (List.Perm.append_left _ (List.Perm.append_left _ ?_))
  rw [← List.append_assoc, ← List.append_assoc, List.append_assoc (mRows1 cA qw)]
  exact List.perm_append_comm
