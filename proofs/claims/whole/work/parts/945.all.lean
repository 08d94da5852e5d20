/-! ONE RUN, MANY PROMISES -/
theorem met_all {ι : Type} (i0 : ι) {l : Launch} {y : MethodName} {ws : List Cond} {rm : Room} {Pc : Array Value → State → Prop} {Qc : ι → Array Value → State → Outcome → State → Prop} {mc ms : Nat} {free : Addr → Prop} (h : ∀ i, Met l y ws rm Pc (Qc i) mc ms free) : Met l y ws rm Pc (fun a st o t => ∀ i, Qc i a st o t) mc ms free := by
  intro p e h1 h2 h3 s m args below hf ha hP hK
  obtain ⟨n, o, hw, hs, he, hq⟩ := h i0 p e h1 h2 h3 s m args below hf ha hP hK
  refine ⟨n, o, hw, hs, he, fun i => ?_, hq.2⟩
  obtain ⟨n2, o2, hw2, hs2, he2, hq2⟩ := h i p e h1 h2 h3 s m args below hf ha hP hK
  obtain ⟨rfl, rfl⟩ := the_end_unique hw2 he2 hw he
  exact hq2.1
theorem met_post {l : Launch} {y : MethodName} {ws : List Cond} {rm : Room} {Pc : Array Value → State → Prop} {Qc Qc2 : Array Value → State → Outcome → State → Prop} {mc ms : Nat} {free : Addr → Prop} (h : Met l y ws rm Pc Qc mc ms free) (hq : ∀ a st o t, Qc a st o t → Qc2 a st o t) : Met l y ws rm Pc Qc2 mc ms free := by
  intro p e h1 h2 h3 s m args below hf ha hP hK
  obtain ⟨n, o, hw, hs, he, hq1⟩ := h p e h1 h2 h3 s m args below hf ha hP hK
  exact ⟨n, o, hw, hs, he, hq _ _ _ _ hq1.1, hq1.2⟩
theorem hi_all {ι : Type} (i0 : ι) {l : Launch} {g : GT} {lay : List CD} {sk : Nat → Nat} {ao : Nat} {cL : ClassId} {y : MethodName} {bb : ByteArray} {mL h n : Nat} {hh : List (Nat × Nat × Nat × Nat)} {vs : List Value} {M : Mem} {f : Nat → Int64} {post : ι → Int32 → Mem → (Nat → Int64) → Prop} (H : ∀ i, HI l g lay sk ao cL y bb mL h n hh vs M f (post i)) : HI l g lay sk ao cL y bb mL h n hh vs M f (fun r M1 f1 => post i0 r M1 f1 ∧ ∀ i, ∃ M2 f2, post i r M2 f2 ∧ f2 0 = f1 0) := by
  intro sz
  refine met_post (met_all i0 (fun i => H i sz)) (fun a st o t hq => ?_)
  obtain ⟨⟨v, u, ho, hp, hB⟩, hF⟩ := hq i0
  refine ⟨⟨v, u, ho, ⟨hp, fun i => ?_⟩, hB⟩, hF⟩
  obtain ⟨⟨v2, u2, ho2, hp2, hB2⟩, -⟩ := hq i
  have ev : v2 = v := by
    have := ho2.symm.trans ho
    injection this with this
    injection this with this
    injection this
  subst ev
  refine ⟨u2.1, u2.2, hp2, ?_⟩
  have k1 : va_at (g.1, g.2.1) vwCl (ao, ouE cL u.2) t.heap := vp_iff.mp hB _ (List.mem_append_right _ (List.mem_singleton.mpr rfl))
  have k2 : va_at (g.1, g.2.1) vwCl (ao, ouE cL u2.2) t.heap := vp_iff.mp hB2 _ (List.mem_append_right _ (List.mem_singleton.mpr rfl))
  have k1' : t.heap[ao]? = some (arrV cL 1 (fun j => .long (u.2 j))) := k1
  have k2' : t.heap[ao]? = some (arrV cL 1 (fun j => .long (u2.2 j))) := k2
  have e := Option.some.inj (k2'.symm.trans k1')
  have e2 : (arrV cL 1 (fun j => Value.long (u2.2 j))).slots[0]? = (arrV cL 1 (fun j => Value.long (u.2 j))).slots[0]? := by rw [e]
  rw [arrV_read _ _ (by omega), arrV_read _ _ (by omega)] at e2
  have e3 := Option.some.inj e2
  injection e3
theorem ci_all {ι : Type} (i0 : ι) {l : Launch} {g : GT} {lay : List CD} {y : MethodName} {bb : ByteArray} {mL h : Nat} {ret : Option FieldType} {vs : List Value} {M : Mem} {post : ι → Int32 → Mem → Prop} (H : ∀ i, CI l g lay y bb mL ret h vs M (post i)) : CI l g lay y bb mL ret h vs M (fun r M1 => post i0 r M1 ∧ ∀ i, ∃ M2, post i r M2) := by
  intro sz
  refine met_post (met_all i0 (fun i => H i sz)) (fun a st o t hq => ?_)
  obtain ⟨⟨v, u, ho, hp, hB⟩, hF⟩ := hq i0
  refine ⟨⟨v, u, ho, ⟨hp, fun i => ?_⟩, hB⟩, hF⟩
  obtain ⟨⟨v2, u2, ho2, hp2, hB2⟩, -⟩ := hq i
  have ev : v2 = v := by
    have := ho2.symm.trans ho
    injection this with this
    injection this with this
    injection this
  subst ev
  exact ⟨u2, hp2⟩
