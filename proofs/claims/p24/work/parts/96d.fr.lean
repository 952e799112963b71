/-! frames, by the rest's places -/
section FR2
variable {l : Launch} {D : va_G} {cA : Nat → ClassId} {y : MethodName} {wy : List Cond} {rm : Room} {wc ws : va_W} {av : List Value} {mc ms : Nat}
/-- a part's contract, over a world: the rest comes first, then what came back, put in order -/
theorem Con.fr {Post Post' : Option Value → va_W → Prop} (hM : Con l D cA y wy rm wc av mc ms Post) {wr : va_W} (isC isR perm : List Nat) (hC : isC.map (fun i => ws[i]?) = wc.map some) (hR : isR.map (fun i => ws[i]?) = wr.map some) (hnC : va_nd isC = true) (hnR : va_nd isR = true) (hdis : ∀ i ∈ isR, i ∉ isC) (hnp : va_nd perm = true)
    (h : ∀ v w1, Post v w1 → ∃ w', perm.map (fun i => (wr ++ w1)[i]?) = w'.map some ∧ Post' v w') : Con l D cA y wy rm ws av mc ms Post' := by
  intro sz p e hadm hfc hfk s m args below hf happ hP hK
  obtain ⟨hav, hsz, hP0, hE, hD⟩ := hP
  subst hsz
  have hsub := va_A_sub hC s.heap.size
  have hPc : va_P D vwCl wc s.heap := fun k q hk => by
    obtain ⟨i, -, h⟩ := map_at hC k q hk
    exact hP0 i q h
  obtain ⟨n, o, h1, h2, h3, ⟨⟨v, w1, ho, hp, hP1, hD1⟩, hF⟩, L, hL1, hL2⟩ := hM s.heap.size p e hadm hfc hfk s m args below hf happ ⟨hav, rfl, hPc, hE.narrow hsub, hD.sub isC hnC hC⟩ hK
  obtain ⟨w', hw', hp'⟩ := h v w1 hp
  obtain ⟨hPj, hDj⟩ := va_join hP0 (hD.self (sz := s.heap.size)) isC isR hC hR hnR hdis hF.2 hsub hP1 hD1
  exact ⟨n, o, h1, h2, h3, ⟨⟨v, w', ho, hp', fun k q hk => by
    obtain ⟨i, -, h⟩ := map_at hw' k q hk
    exact hPj i q h, hDj.sub perm hnp hw'⟩, hF.1, fun q a b => hF.2 q a (fun z => b (hsub q z))⟩, L, hL1, fun q hq => hsub _ (hL2 q hq)⟩
theorem ConX.fr {Post Post' : Option Value → va_W → Prop} {PostX PostX' : String → va_W → Prop} (hM : ConX l D cA y wy rm wc av mc ms Post PostX) {wr : va_W} (isC isR perm : List Nat) (hC : isC.map (fun i => ws[i]?) = wc.map some) (hR : isR.map (fun i => ws[i]?) = wr.map some) (hnC : va_nd isC = true) (hnR : va_nd isR = true) (hdis : ∀ i ∈ isR, i ∉ isC) (hnp : va_nd perm = true)
    (h : ∀ v w1, Post v w1 → ∃ w', perm.map (fun i => (wr ++ w1)[i]?) = w'.map some ∧ Post' v w') (hx : ∀ E w1, PostX E w1 → ∃ w', perm.map (fun i => (wr ++ w1)[i]?) = w'.map some ∧ PostX' E w') : ConX l D cA y wy rm ws av mc ms Post' PostX' := by
  intro sz p e hadm hfc hfk s m args below hf happ hP hK
  obtain ⟨hav, hsz, hP0, hE, hD⟩ := hP
  subst hsz
  have hsub := va_A_sub hC s.heap.size
  have hPc : va_P D vwCl wc s.heap := fun k q hk => by
    obtain ⟨i, -, h⟩ := map_at hC k q hk
    exact hP0 i q h
  obtain ⟨n, o, h1, h2, h3, hQ⟩ := hM s.heap.size p e hadm hfc hfk s m args below hf happ ⟨hav, rfl, hPc, hE.narrow hsub, hD.sub isC hnC hC⟩ hK
  rcases hQ with ⟨⟨⟨v, w1, ho, hp, hP1, hD1⟩, hF⟩, L, hL1, hL2⟩ | ⟨q, ho, E, ce, L, ⟨⟨w1, hp, hP1, hD1⟩, hF⟩, g1, g2, g3, g4, g5, g6⟩
  · obtain ⟨w', hw', hp'⟩ := h v w1 hp
    obtain ⟨hPj, hDj⟩ := va_join hP0 (hD.self (sz := s.heap.size)) isC isR hC hR hnR hdis hF.2 hsub hP1 hD1
    exact ⟨n, o, h1, h2, h3, Or.inl ⟨⟨⟨v, w', ho, hp', fun k q hk => by
      obtain ⟨i, -, h⟩ := map_at hw' k q hk
      exact hPj i q h, hDj.sub perm hnp hw'⟩, hF.1, fun q a b => hF.2 q a (fun z => b (hsub q z))⟩, L, hL1, fun q hq => hsub _ (hL2 q hq)⟩⟩
  · obtain ⟨w', hw', hp'⟩ := hx E w1 hp
    obtain ⟨hPj, hDj⟩ := va_join hP0 (hD.self (sz := s.heap.size)) isC isR hC hR hnR hdis hF.2 hsub hP1 hD1
    exact ⟨n, o, h1, h2, h3, Or.inr ⟨q, ho, E, ce, L, ⟨⟨w', hp', fun k q hk => by
      obtain ⟨i, -, h⟩ := map_at hw' k q hk
      exact hPj i q h, hDj.sub perm hnp hw'⟩, hF.1, fun q a b => hF.2 q a (fun z => b (hsub q z))⟩, g1, g2, g3, g4, g5, fun z hz => hsub _ (g6 z hz)⟩⟩
end FR2
