/-! THE LAW'S CASES end, feed, back, image -/
theorem meC_end : MeV yX11_end cX11_end 2 (some .boolean) 1 := ⟨⟨gw 105 (by decide +kernel) (by decide +kernel), gw 650 (by decide +kernel) (by decide +kernel), by decide +kernel, by decide⟩, gw 648 (by decide +kernel) (by decide +kernel), gw 649 (by decide +kernel) (by decide +kernel)⟩
theorem lkC_end : Cond.methodLink RL 154 yX11_end ∈ GW := gw 647 (by decide +kernel) (by decide +kernel)
theorem meM_end : MeV yX12_end cX12_end 2 (some .boolean) 1 := ⟨⟨gw 116 (by decide +kernel) (by decide +kernel), gw 2120 (by decide +kernel) (by decide +kernel), by decide +kernel, by decide⟩, gw 2118 (by decide +kernel) (by decide +kernel), gw 2119 (by decide +kernel) (by decide +kernel)⟩
theorem lkM_end : Cond.methodLink RL 158 yX12_end ∈ GW := gw 2117 (by decide +kernel) (by decide +kernel)
theorem case_end {X : FX} {g : GT} {cL : ClassId} {A : Nat → Prop} {sk : Nat → Nat} {sb L : Nat} {sx : Nat → Int32} {kc ks : Nat} {Z : State → Prop} {n : Nat} {aM aC : Nat → Nat} {ext : List CD} {Mc Mm : Mem} {ao : Nat} {f : Nat → Int64} (C : CxL X g cL A sk sb L sx) (hL : L ≤ 3072) (hn : n + 5 < L) (hk : kc + 80 ≤ 601024 ∧ ks + 480 ≤ 7293034) (hJ : JI ext Mc Mm) (K : NX X g cL A sb kc ks Z n aM aC ext ao) : AtN X (g.1, g.2.1) (WS g aM aC ext Mc Mm ao cL f) A 7 kc ks Z 321 (lvB n ao (aM 0) (aC 0) sb) [] := by
  have hD := hJ.1
  have hI := hJ.2.1
  have hW := hJ.2.2.1
  have h : segB code 321 [(.aload_n 1, 1), (.aload_n 0, 1), (.iload 4, 2), (.iconst 1, 1), (.iadd, 1), (.iaload, 1), (.invokevirtual 154, 3), (.aload_n 2, 1), (.aload_n 0, 1), (.iload 4, 2), (.iconst 1, 1), (.iadd, 1), (.iaload, 1), (.invokevirtual 158, 3), (.if_icmp .eq 3224, 3), (.iconst 0, 1), (.ireturn, 1)] = true := by decide +kernel
  obtain ⟨dx, h⟩ := seg1 h
  refine n_aload_n C.1.1 dx rfl ?_
  have hT := hJ.2.2.2.1
  refine l_arg C h (n := n) (j := 1) rfl rfl (by decide) (by omega) hL (fun h => ?_)
  obtain ⟨dx, h⟩ := seg1 h
  refine l_C C [.int (sx (n + 1))] meC_end lkC_end (ct_R_end (g := gA g aC) (s_R_end (post := fun r M1 => (r = 1 ∧ ¬ sx (n + 1) < 0 ∧ sx (n + 1) ≤ Mc 84 4 ∧ M1 = ms Mc 84 4 (sx (n + 1))) ∨ (r = 0 ∧ (sx (n + 1) < 0 ∨ ¬ sx (n + 1) ≤ Mc 84 4) ∧ M1 = Mc)) (fun a b => Or.inl ⟨rfl, a, b, rfl⟩) (fun a => Or.inr ⟨rfl, a, rfl⟩))) (by decide) rfl rfl rfl (by decide) dx ⟨by omega, by omega⟩ (fun r Mc1 hq => ?_)
  obtain ⟨dx, h⟩ := seg1 h
  refine n_aload_n C.1.1 dx rfl ?_
  refine l_arg C h (n := n) (j := 1) rfl rfl (by decide) (by omega) hL (fun h => ?_)
  obtain ⟨dx, h⟩ := seg1 h
  refine l_R C [.int (sx (n + 1))] meM_end lkM_end (ct_M_end (g := gA g aM) (s_M_end (post := fun r M1 => (r = 1 ∧ ¬ sx (n + 1) < 0 ∧ sx (n + 1) ≤ Mm 0 19 ∧ M1 1 = Mm 1 ∧ M1 2 = Mm 2 ∧ M1 10 = Mm 10 ∧ M1 0 3 = Mm 0 3 ∧ M1 0 24 = Mm 0 24 ∧ M1 0 19 = sx (n + 1)) ∨ (r = 0 ∧ (sx (n + 1) < 0 ∨ ¬ sx (n + 1) ≤ Mm 0 19) ∧ MSame Mm M1)) (fun a b M2 c1 c2 c3 c4 c5 _ c6 => Or.inl ⟨rfl, a, b, c1, c2, c3, c4, c5, c6⟩) (fun a M2 hS _ => Or.inr ⟨rfl, a, hS⟩))) (by decide) rfl rfl rfl (Nat.le_of_ble_eq_true rfl) dx ⟨by omega, by omega⟩ (fun v Mm1 hv => ?_)
  obtain ⟨dx, h⟩ := seg1 h
  have e19 : Mc 84 4 = Mm 0 19 := by
    obtain ⟨m, -, e1, e2⟩ := hT
    rw [e1, e2]
  rcases hq with ⟨rfl, q1, q2, rfl⟩ | ⟨rfl, q1, rfl⟩ <;> rcases hv with ⟨rfl, v1, v2, c1, c2, c3, c4, c5, c6⟩ | ⟨rfl, v1, hS⟩
  · exact l_cmp C dx (by decide) (n_to rfl (by omega) (by omega) (K aC ext _ Mm1 _ rfl (hJ.e q1 q2 c1 c2 c3 c4 c5 c6) (Nat.le_add_right _ _)))
  · rcases v1 with v1 | v1
    · exact absurd v1 q1
    · rw [e19] at q2; exact absurd q2 v1
  · rcases q1 with q1 | q1
    · exact absurd q1 v1
    · rw [e19] at q1; exact absurd v2 q1
  · exact l_cmp C dx (by decide) (n_to rfl (by omega) (by omega) (K aC ext _ Mm1 _ rfl (hJ.n hS) (Nat.le_add_right _ _)))
theorem meC_feed : MeV yX11_feed cX11_feed 6 (some .int) 5 := ⟨⟨gw 105 (by decide +kernel) (by decide +kernel), gw 642 (by decide +kernel) (by decide +kernel), by decide +kernel, by decide⟩, gw 640 (by decide +kernel) (by decide +kernel), gw 641 (by decide +kernel) (by decide +kernel)⟩
theorem lkC_feed : Cond.methodLink RL 150 yX11_feed ∈ GW := gw 639 (by decide +kernel) (by decide +kernel)
theorem meM_feed : MeV yX12_feed cX12_feed 7 (some .int) 5 := ⟨⟨gw 116 (by decide +kernel) (by decide +kernel), gw 2116 (by decide +kernel) (by decide +kernel), by decide +kernel, by decide⟩, gw 2114 (by decide +kernel) (by decide +kernel), gw 2115 (by decide +kernel) (by decide +kernel)⟩
theorem lkM_feed : Cond.methodLink RL 153 yX12_feed ∈ GW := gw 2113 (by decide +kernel) (by decide +kernel)
theorem case_feed {X : FX} {g : GT} {cL : ClassId} {A : Nat → Prop} {sk : Nat → Nat} {sb L : Nat} {sx : Nat → Int32} {kc ks : Nat} {Z : State → Prop} {n : Nat} {aM aC : Nat → Nat} {ext : List CD} {Mc Mm : Mem} {ao : Nat} {f : Nat → Int64} (C : CxL X g cL A sk sb L sx) (hL : L ≤ 3072) (hn : n + 5 < L) (hk : kc + 80 ≤ 601024 ∧ ks + 480 ≤ 7293034) (hJ : JI ext Mc Mm) (K : NX X g cL A sb kc ks Z n aM aC ext ao) : AtN X (g.1, g.2.1) (WS g aM aC ext Mc Mm ao cL f) A 7 kc ks Z 248 (lvB n ao (aM 0) (aC 0) sb) [] := by
  have hD := hJ.1
  have hI := hJ.2.1
  have hW := hJ.2.2.1
  have h : segB code 248 [(.aload_n 1, 1), (.aload_n 0, 1), (.iload 4, 2), (.iconst 1, 1), (.iadd, 1), (.iaload, 1), (.aload_n 0, 1), (.iload 4, 2), (.iconst 2, 1), (.iadd, 1), (.iaload, 1), (.aload_n 0, 1), (.iload 4, 2), (.iconst 3, 1), (.iadd, 1), (.iaload, 1), (.aload_n 0, 1), (.iload 4, 2), (.iconst 4, 1), (.iadd, 1), (.iaload, 1), (.aload_n 0, 1), (.iload 4, 2), (.iconst 5, 1), (.iadd, 1), (.iaload, 1), (.invokevirtual 150, 3), (.aload_n 2, 1), (.aload_n 0, 1), (.iload 4, 2), (.iconst 1, 1), (.iadd, 1), (.iaload, 1), (.aload_n 0, 1), (.iload 4, 2), (.iconst 2, 1), (.iadd, 1), (.iaload, 1), (.aload_n 0, 1), (.iload 4, 2), (.iconst 3, 1), (.iadd, 1), (.iaload, 1), (.aload_n 0, 1), (.iload 4, 2), (.iconst 4, 1), (.iadd, 1), (.iaload, 1), (.aload_n 0, 1), (.iload 4, 2), (.iconst 5, 1), (.iadd, 1), (.iaload, 1), (.invokevirtual 153, 3), (.if_icmp .eq 3249, 3), (.iconst 0, 1), (.ireturn, 1)] = true := by decide +kernel
  obtain ⟨dx, h⟩ := seg1 h
  refine n_aload_n C.1.1 dx rfl ?_
  obtain ⟨m, hm4, hm1, hm2⟩ := hJ.2.2.2.1
  refine l_arg C h (n := n) (j := 1) rfl rfl (by decide) (by omega) hL (fun h => ?_)
  refine l_arg C h (n := n) (j := 2) rfl rfl (by decide) (by omega) hL (fun h => ?_)
  refine l_arg C h (n := n) (j := 3) rfl rfl (by decide) (by omega) hL (fun h => ?_)
  refine l_arg C h (n := n) (j := 4) rfl rfl (by decide) (by omega) hL (fun h => ?_)
  refine l_arg C h (n := n) (j := 5) rfl rfl (by decide) (by omega) hL (fun h => ?_)
  obtain ⟨dx, h⟩ := seg1 h
  refine l_C C [.int (sx (n + 1)), .int (sx (n + 2)), .int (sx (n + 3)), .int (sx (n + 4)), .int (sx (n + 5))] meC_feed lkC_feed (ct_R_feed (g := gA g aC) (s_R_feed2 (n := m) (post := fun r M1 => (r = nI (m + 20) ∧ m + 20 ≤ 400 ∧ TkQ2 Mc m (fdB (sx (n + 1)) (sx (n + 2)) (sx (n + 3)) (sx (n + 4)) (sx (n + 5))) 20 M1) ∨ (r = -1 ∧ ¬ m + 20 ≤ 400 ∧ M1 = Mc)) hm1 hm4 (fun a M2 b => Or.inl ⟨rfl, a, b⟩) (fun a => Or.inr ⟨rfl, a, rfl⟩))) (by decide) rfl rfl rfl (by decide) dx ⟨by omega, by omega⟩ (fun r Mc1 hq => ?_)
  obtain ⟨dx, h⟩ := seg1 h
  refine n_aload_n C.1.1 dx rfl ?_
  refine l_arg C h (n := n) (j := 1) rfl rfl (by decide) (by omega) hL (fun h => ?_)
  refine l_arg C h (n := n) (j := 2) rfl rfl (by decide) (by omega) hL (fun h => ?_)
  refine l_arg C h (n := n) (j := 3) rfl rfl (by decide) (by omega) hL (fun h => ?_)
  refine l_arg C h (n := n) (j := 4) rfl rfl (by decide) (by omega) hL (fun h => ?_)
  refine l_arg C h (n := n) (j := 5) rfl rfl (by decide) (by omega) hL (fun h => ?_)
  obtain ⟨dx, h⟩ := seg1 h
  refine l_R C [.int (sx (n + 1)), .int (sx (n + 2)), .int (sx (n + 3)), .int (sx (n + 4)), .int (sx (n + 5))] meM_feed lkM_feed (ct_M_feed (g := gA g aM) (s_M_feed2 (n := m) (post := fun r M1 => (r = nI (m + 20) ∧ m + 20 ≤ 400 ∧ FdQ2 Mm m (fdB (sx (n + 1)) (sx (n + 2)) (sx (n + 3)) (sx (n + 4)) (sx (n + 5))) 20 M1 ∧ M1 0 19 = nI (m + 20)) ∨ (r = -1 ∧ ¬ m + 20 ≤ 400 ∧ MSame Mm M1)) hm2 hm4 (fun a M2 b c => Or.inl ⟨rfl, a, b, c⟩) (fun a M2 hS _ => Or.inr ⟨rfl, a, hS⟩))) (by decide) rfl rfl rfl (Nat.le_of_ble_eq_true rfl) dx ⟨by omega, by omega⟩ (fun v Mm1 hv => ?_)
  obtain ⟨dx, h⟩ := seg1 h
  rcases hq with ⟨rfl, q1, q2⟩ | ⟨rfl, q1, rfl⟩ <;> rcases hv with ⟨rfl, v1, v2, v3⟩ | ⟨rfl, v1, hS⟩
  · exact l_cmp C dx (by decide) (n_to rfl (by omega) (by omega) (K aC ext _ Mm1 _ rfl (hJ.f q1 q2 v2 v3) (Nat.le_add_right _ _)))
  · exact absurd q1 v1
  · exact absurd v1 q1
  · exact l_cmp C dx (by decide) (n_to rfl (by omega) (by omega) (K aC ext _ Mm1 _ rfl (hJ.n hS) (Nat.le_add_right _ _)))
theorem meC_back : MeV yX11_back cX11_back 1 (some .boolean) 0 := ⟨⟨gw 105 (by decide +kernel) (by decide +kernel), gw 798 (by decide +kernel) (by decide +kernel), by decide +kernel, by decide⟩, gw 796 (by decide +kernel) (by decide +kernel), gw 797 (by decide +kernel) (by decide +kernel)⟩
theorem lkC_back : Cond.methodLink RL 319 yX11_back ∈ GW := gw 795 (by decide +kernel) (by decide +kernel)
theorem meM_back : MeV yX12_back cX12_back 2 (some .boolean) 0 := ⟨⟨gw 116 (by decide +kernel) (by decide +kernel), gw 1752 (by decide +kernel) (by decide +kernel), by decide +kernel, by decide⟩, gw 1750 (by decide +kernel) (by decide +kernel), gw 1751 (by decide +kernel) (by decide +kernel)⟩
theorem lkM_back : Cond.methodLink RL 323 yX12_back ∈ GW := gw 1749 (by decide +kernel) (by decide +kernel)
theorem case_back {X : FX} {g : GT} {cL : ClassId} {A : Nat → Prop} {sk : Nat → Nat} {sb L : Nat} {sx : Nat → Int32} {kc ks : Nat} {Z : State → Prop} {n : Nat} {aM aC : Nat → Nat} {ext : List CD} {Mc Mm : Mem} {ao : Nat} {f : Nat → Int64} (C : CxL X g cL A sk sb L sx) (hL : L ≤ 3072) (hn : n + 5 < L) (hk : kc + 80 ≤ 601024 ∧ ks + 480 ≤ 7293034) (hJ : JI ext Mc Mm) (K : NX X g cL A sb kc ks Z n aM aC ext ao) : AtN X (g.1, g.2.1) (WS g aM aC ext Mc Mm ao cL f) A 7 kc ks Z 3527 (lvB n ao (aM 0) (aC 0) sb) [] := by
  have hD := hJ.1
  have hI := hJ.2.1
  have hW := hJ.2.2.1
  have h : segB code 3527 [(.aload_n 1, 1), (.invokevirtual 319, 3), (.aload_n 2, 1), (.invokevirtual 323, 3), (.if_icmp .eq 30, 3), (.iconst 0, 1), (.ireturn, 1)] = true := by decide +kernel
  obtain ⟨dx, h⟩ := seg1 h
  refine n_aload_n C.1.1 dx rfl ?_
  have hT := hJ.2.2.2.1
  obtain ⟨dx, h⟩ := seg1 h
  refine l_C C [] meC_back lkC_back (ct_R_back (g := gA g aC) (s_R_back (w := Mm 2) (post := fun r M1 => (r = 1 ∧ ¬ Mc 0 7 = 0 ∧ (∀ c, (c = 0 ∨ 32 ≤ c) → c ≠ 63 → M1 c = Mc c) ∧ M1 63 12 = 0 ∧ Dk 1 M1 (Mm 2) ∧ ∀ k, k < 6 → M1 31 k = Mc 62 k) ∨ (r = 0 ∧ Mc 0 7 = 0 ∧ M1 = Mc)) (fun e => ⟨(hJ.2.2.2.2.2.2.2.1 e).1, (hJ.2.2.2.2.2.2.2.1 e).2.1, hJ.2.2.2.2.2.2.2.2.2.2.1⟩) (fun a M2 b c d e => Or.inl ⟨rfl, a, b, c, d, e⟩) (fun a => Or.inr ⟨rfl, a, rfl⟩))) (by decide) rfl rfl rfl (by decide) dx ⟨by omega, by omega⟩ (fun r Mc1 hq => ?_)
  obtain ⟨dx, h⟩ := seg1 h
  refine n_aload_n C.1.1 dx rfl ?_
  obtain ⟨dx, h⟩ := seg1 h
  refine l_R C [] meM_back lkM_back (ct_M_back (g := gA g aM) (s_M_back (post := fun r M1 => (r = 1 ∧ ¬ Mm 0 3 = 0 ∧ (∀ k, k < 5165 → M1 1 k = Mm 2 k) ∧ M1 2 = Mm 2 ∧ M1 10 = Mm 10 ∧ M1 0 3 = Mm 0 3 ∧ M1 0 19 = Mm 0 19 ∧ M1 0 24 = Mm 0 24) ∨ (r = 0 ∧ Mm 0 3 = 0 ∧ MSame Mm M1)) (fun a M2 b c d e f9 g9 _ => Or.inl ⟨rfl, a, b, c, d, e, f9, g9⟩) (fun a M2 hS _ => Or.inr ⟨rfl, a, hS⟩))) (by decide) rfl rfl rfl (Nat.le_of_ble_eq_true rfl) dx ⟨by omega, by omega⟩ (fun v Mm1 hv => ?_)
  obtain ⟨dx, h⟩ := seg1 h
  have e7 : Mc 0 7 = Mm 0 3 := hJ.2.2.2.2.2.2.1
  rcases hq with ⟨rfl, q1, q2, q3, q4, q5⟩ | ⟨rfl, q1, rfl⟩ <;> rcases hv with ⟨rfl, v1, c1, c2, c3, c4, c5, c6⟩ | ⟨rfl, v1, hS⟩
  · exact l_cmp C dx (by decide) (n_to rfl (by omega) (by omega) (K aC ext _ Mm1 _ rfl (hJ.b q1 q2 q3 q4 q5 c1 c2 c3 c4 c5 c6) (Nat.le_add_right _ _)))
  · exact absurd (e7.trans v1) q1
  · exact absurd (e7.symm.trans q1) v1
  · exact l_cmp C dx (by decide) (n_to rfl (by omega) (by omega) (K aC ext _ Mm1 _ rfl (hJ.n hS) (Nat.le_add_right _ _)))
theorem meC_image : MeV yX11_image cX11_image 1 none 0 := ⟨⟨gw 105 (by decide +kernel) (by decide +kernel), gw 774 (by decide +kernel) (by decide +kernel), by decide +kernel, by decide⟩, gw 772 (by decide +kernel) (by decide +kernel), gw 773 (by decide +kernel) (by decide +kernel)⟩
theorem lkC_image : Cond.methodLink RL 315 yX11_image ∈ GW := gw 771 (by decide +kernel) (by decide +kernel)
theorem meM_image : MeV yX12_image cX12_image 2 none 0 := ⟨⟨gw 116 (by decide +kernel) (by decide +kernel), gw 1748 (by decide +kernel) (by decide +kernel), by decide +kernel, by decide⟩, gw 1746 (by decide +kernel) (by decide +kernel), gw 1747 (by decide +kernel) (by decide +kernel)⟩
theorem lkM_image : Cond.methodLink RL 318 yX12_image ∈ GW := gw 1745 (by decide +kernel) (by decide +kernel)
theorem case_image {X : FX} {g : GT} {cL : ClassId} {A : Nat → Prop} {sk : Nat → Nat} {sb L : Nat} {sx : Nat → Int32} {kc ks : Nat} {Z : State → Prop} {n : Nat} {aM aC : Nat → Nat} {ext : List CD} {Mc Mm : Mem} {ao : Nat} {f : Nat → Int64} (C : CxL X g cL A sk sb L sx) (hL : L ≤ 3072) (hn : n + 5 < L) (hk : kc + 80 ≤ 601024 ∧ ks + 480 ≤ 7293034) (hJ : JI ext Mc Mm) (K : NX X g cL A sb kc ks Z n aM aC ext ao) : AtN X (g.1, g.2.1) (WS g aM aC ext Mc Mm ao cL f) A 7 kc ks Z 3516 (lvB n ao (aM 0) (aC 0) sb) [] := by
  have hD := hJ.1
  have hI := hJ.2.1
  have hW := hJ.2.2.1
  have h : segB code 3516 [(.aload_n 1, 1), (.invokevirtual 315, 3), (.aload_n 2, 1), (.invokevirtual 318, 3), (.goto 41, 3)] = true := by decide +kernel
  obtain ⟨dx, h⟩ := seg1 h
  refine n_aload_n C.1.1 dx rfl ?_
  obtain ⟨dx, h⟩ := seg1 h
  refine l_CV C [] meC_image lkC_image (ct_R_image (g := gA g aC) (s_R_image (post := fun M1 => (∀ c, c ≠ 0 → (c < 32 ∨ 63 ≤ c) → M1 c = Mc c) ∧ M1 0 7 = 1 ∧ Dk 32 M1 (Mm 1) ∧ ∀ k, k < 6 → M1 62 k = Mc 31 k) hD hI hJ.2.2.2.2.2.2.2.2.2.1 (fun M2 a _ b c d => ⟨a, b, c, d⟩))) (by decide) rfl rfl rfl (by decide) dx ⟨by omega, by omega⟩ (fun Mc1 hq => ?_)
  obtain ⟨dx, h⟩ := seg1 h
  refine n_aload_n C.1.1 dx rfl ?_
  obtain ⟨dx, h⟩ := seg1 h
  refine l_RV C [] meM_image lkM_image (ct_M_image (g := gA g aM) (s_M_image (post := fun M1 => M1 1 = Mm 1 ∧ (∀ k, k < 5165 → M1 2 k = Mm 1 k) ∧ M1 10 = Mm 10 ∧ M1 0 3 = 1 ∧ M1 0 19 = Mm 0 19 ∧ M1 0 24 = Mm 0 24) (fun M2 a b c d e f9 _ => ⟨a, b, c, d, e, f9⟩))) (by decide) rfl rfl rfl (by decide) dx ⟨by omega, by omega⟩ (fun Mm1 hv => ?_)
  obtain ⟨dx, h⟩ := seg1 h
  exact n_goto C.1.1 3565 dx (by decide) (n_to rfl (by omega) (by omega) (K aC ext Mc1 Mm1 _ rfl (hJ.i hq.1 hq.2.1 hq.2.2.1 hq.2.2.2 hv.1 hv.2.1 hv.2.2.1 hv.2.2.2.1 hv.2.2.2.2.1 hv.2.2.2.2.2) (Nat.le_add_right _ _)))
