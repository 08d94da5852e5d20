theorem lkH_misprint : Cond.methodLink RL 268 yL_misprint ∈ GW := gw 1308 (by decide +kernel) (by decide +kernel)
theorem meM_misprint : MeV yX12_misprint cX12_misprint 7 (some .int) 2 := ⟨⟨gw 116 (by decide +kernel) (by decide +kernel), gw 2046 (by decide +kernel) (by decide +kernel), by decide +kernel, by decide⟩, gw 2044 (by decide +kernel) (by decide +kernel), gw 2045 (by decide +kernel) (by decide +kernel)⟩
theorem lkM_misprint : Cond.methodLink RL 270 yX12_misprint ∈ GW := gw 2043 (by decide +kernel) (by decide +kernel)
theorem case_misprint {X : FX} {g : GT} {cL : ClassId} {A : Nat → Prop} {sk : Nat → Nat} {sb L : Nat} {sx : Nat → Int32} {kc ks : Nat} {Z : State → Prop} {n : Nat} {aM aC : Nat → Nat} {ext : List CD} {Mc Mm : Mem} {ao : Nat} {f : Nat → Int64} (C : CxL X g cL A sk sb L sx) (hL : L ≤ 3072) (hn : n + 5 < L) (hk : kc + 80 ≤ 601024 ∧ ks + 480 ≤ 7293034) (hJ : JI ext Mc Mm) (K : NX X g cL A sb kc ks Z n aM aC ext ao) : AtN X (g.1, g.2.1) (WS g aM aC ext Mc Mm ao cL f) A 7 kc ks Z 2453 (lvB n ao (aM 0) (aC 0) sb) [] := by
  have hD := hJ.1
  have hI := hJ.2.1
  have hW := hJ.2.2.1
  have h : segB code 2453 [(.aload_n 1, 1), (.aload_n 0, 1), (.iload 4, 2), (.iconst 1, 1), (.iadd, 1), (.iaload, 1), (.aload_n 0, 1), (.iload 4, 2), (.iconst 2, 1), (.iadd, 1), (.iaload, 1), (.aload_n 3, 1), (.invokestatic 268, 3), (.istore 5, 2), (.aload_n 2, 1), (.aload_n 0, 1), (.iload 4, 2), (.iconst 1, 1), (.iadd, 1), (.iaload, 1), (.aload_n 0, 1), (.iload 4, 2), (.iconst 2, 1), (.iadd, 1), (.iaload, 1), (.invokevirtual 270, 3), (.istore 6, 2), (.aload_n 2, 1), (.invokevirtual 165, 3), (.iload 5, 2), (.if_icmp .eq 5, 3), (.iconst 0, 1), (.ireturn, 1), (.iload 5, 2), (.ifCond .ne 15, 3), (.aload_n 3, 1), (.iconst 0, 1), (.laload, 1), (.iload 6, 2), (.i2l, 1), (.lcmp, 1), (.ifCond .eq 5, 3), (.iconst 0, 1), (.ireturn, 1), (.goto 1047, 3)] = true := by decide +kernel
  obtain ⟨dx, h⟩ := seg1 h
  refine n_aload_n C.1.1 dx rfl ?_
  refine l_arg C h (n := n) (j := 1) rfl rfl (by decide) (by omega) hL (fun h => ?_)
  refine l_arg C h (n := n) (j := 2) rfl rfl (by decide) (by omega) hL (fun h => ?_)
  obtain ⟨dx, h⟩ := seg1 h
  refine n_aload_n C.1.1 dx rfl ?_
  obtain ⟨dx, h⟩ := seg1 h
  refine l_stat C [.ref (aC 0), .int (sx (n + 1)), .int (sx (n + 2)), .ref ao] mh_misprint lkH_misprint (hi_all (spI (Mm 1)) (fun i => hc_misprint (g := gA g aC) (s_R_misprint hD hI hW i.2 (qx1 (cv := cvI) hW)))) (by decide) rfl rfl (by decide) dx ⟨by omega, by omega⟩ (fun k Mc1 f1 hq => ?_)
  obtain ⟨dx, h⟩ := seg1 h
  refine n_istore C.1.1 dx (by decide) rfl ?_
  obtain ⟨dx, h⟩ := seg1 h
  refine n_aload_n C.1.1 dx rfl ?_
  refine l_arg C h (n := n) (j := 1) rfl rfl (by decide) (by omega) hL (fun h => ?_)
  refine l_arg C h (n := n) (j := 2) rfl rfl (by decide) (by omega) hL (fun h => ?_)
  obtain ⟨dx, h⟩ := seg1 h
  refine l_R C [.int (sx (n + 1)), .int (sx (n + 2))] meM_misprint lkM_misprint (ct_M_misprint (g := gA g aM) (s_M_misprint hI qsM)) (by decide) rfl rfl rfl (by decide) dx ⟨by omega, by omega⟩ (fun v Mm1 hv => ?_)
  obtain ⟨lo, hi, hS9, rfl, hS, e0⟩ := hv
  obtain ⟨M2, f2, ⟨e1, -, -, e2⟩, e3⟩ := hq.2 ⟨(lo, hi), hS9⟩
  obtain ⟨-, hF, hL1, -⟩ := hq.1
  refine tailI C h (by decide) (e0.trans e1.symm) (fun e => ?_) ⟨by omega, by omega⟩ (n_to rfl (by omega) (by omega) (K aC ext Mc1 Mm1 _ rfl (hJ.q hF hL1 hS) (Nat.le_add_right _ _)))
  rw [← e3, e2]
  exact fO_I (e1.symm.trans e)
theorem lkH_alike : Cond.methodLink RL 271 yL_alike ∈ GW := gw 1322 (by decide +kernel) (by decide +kernel)
theorem meM_alike : MeV yX12_alike cX12_alike 6 (some .int) 2 := ⟨⟨gw 116 (by decide +kernel) (by decide +kernel), gw 2112 (by decide +kernel) (by decide +kernel), by decide +kernel, by decide⟩, gw 2110 (by decide +kernel) (by decide +kernel), gw 2111 (by decide +kernel) (by decide +kernel)⟩
theorem lkM_alike : Cond.methodLink RL 273 yX12_alike ∈ GW := gw 2109 (by decide +kernel) (by decide +kernel)
theorem case_alike {X : FX} {g : GT} {cL : ClassId} {A : Nat → Prop} {sk : Nat → Nat} {sb L : Nat} {sx : Nat → Int32} {kc ks : Nat} {Z : State → Prop} {n : Nat} {aM aC : Nat → Nat} {ext : List CD} {Mc Mm : Mem} {ao : Nat} {f : Nat → Int64} (C : CxL X g cL A sk sb L sx) (hL : L ≤ 3072) (hn : n + 5 < L) (hk : kc + 80 ≤ 601024 ∧ ks + 480 ≤ 7293034) (hJ : JI ext Mc Mm) (K : NX X g cL A sb kc ks Z n aM aC ext ao) : AtN X (g.1, g.2.1) (WS g aM aC ext Mc Mm ao cL f) A 7 kc ks Z 2521 (lvB n ao (aM 0) (aC 0) sb) [] := by
  have hD := hJ.1
  have hI := hJ.2.1
  have hW := hJ.2.2.1
  have h : segB code 2521 [(.aload_n 1, 1), (.aload_n 0, 1), (.iload 4, 2), (.iconst 1, 1), (.iadd, 1), (.iaload, 1), (.aload_n 0, 1), (.iload 4, 2), (.iconst 2, 1), (.iadd, 1), (.iaload, 1), (.aload_n 3, 1), (.invokestatic 271, 3), (.istore 5, 2), (.aload_n 2, 1), (.aload_n 0, 1), (.iload 4, 2), (.iconst 1, 1), (.iadd, 1), (.iaload, 1), (.aload_n 0, 1), (.iload 4, 2), (.iconst 2, 1), (.iadd, 1), (.iaload, 1), (.invokevirtual 273, 3), (.istore 6, 2), (.aload_n 2, 1), (.invokevirtual 165, 3), (.iload 5, 2), (.if_icmp .eq 5, 3), (.iconst 0, 1), (.ireturn, 1), (.iload 5, 2), (.ifCond .ne 15, 3), (.aload_n 3, 1), (.iconst 0, 1), (.laload, 1), (.iload 6, 2), (.i2l, 1), (.lcmp, 1), (.ifCond .eq 5, 3), (.iconst 0, 1), (.ireturn, 1), (.goto 979, 3)] = true := by decide +kernel
  obtain ⟨dx, h⟩ := seg1 h
  refine n_aload_n C.1.1 dx rfl ?_
  refine l_arg C h (n := n) (j := 1) rfl rfl (by decide) (by omega) hL (fun h => ?_)
  refine l_arg C h (n := n) (j := 2) rfl rfl (by decide) (by omega) hL (fun h => ?_)
  obtain ⟨dx, h⟩ := seg1 h
  refine n_aload_n C.1.1 dx rfl ?_
  obtain ⟨dx, h⟩ := seg1 h
  refine l_stat C [.ref (aC 0), .int (sx (n + 1)), .int (sx (n + 2)), .ref ao] mh_alike lkH_alike (hi_all (spI (Mm 1)) (fun i => hc_alike (g := gA g aC) (s_R_alike hD hI hW i.2 (qx1 (cv := cvI) hW)))) (by decide) rfl rfl (by decide) dx ⟨by omega, by omega⟩ (fun k Mc1 f1 hq => ?_)
  obtain ⟨dx, h⟩ := seg1 h
  refine n_istore C.1.1 dx (by decide) rfl ?_
  obtain ⟨dx, h⟩ := seg1 h
  refine n_aload_n C.1.1 dx rfl ?_
  refine l_arg C h (n := n) (j := 1) rfl rfl (by decide) (by omega) hL (fun h => ?_)
  refine l_arg C h (n := n) (j := 2) rfl rfl (by decide) (by omega) hL (fun h => ?_)
  obtain ⟨dx, h⟩ := seg1 h
  refine l_R C [.int (sx (n + 1)), .int (sx (n + 2))] meM_alike lkM_alike (ct_M_alike (g := gA g aM) (s_M_alike hI qsM)) (by decide) rfl rfl rfl (by decide) dx ⟨by omega, by omega⟩ (fun v Mm1 hv => ?_)
  obtain ⟨lo, hi, hS9, rfl, hS, e0⟩ := hv
  obtain ⟨M2, f2, ⟨e1, -, -, e2⟩, e3⟩ := hq.2 ⟨(lo, hi), hS9⟩
  obtain ⟨-, hF, hL1, -⟩ := hq.1
  refine tailI C h (by decide) (e0.trans e1.symm) (fun e => ?_) ⟨by omega, by omega⟩ (n_to rfl (by omega) (by omega) (K aC ext Mc1 Mm1 _ rfl (hJ.q hF hL1 hS) (Nat.le_add_right _ _)))
  rw [← e3, e2]
  exact fO_I (e1.symm.trans e)
theorem lkH_stars : Cond.methodLink RL 274 yL_stars ∈ GW := gw 1338 (by decide +kernel) (by decide +kernel)
theorem meM_stars : MeV yX12_stars cX12_stars 10 (some .int) 4 := ⟨⟨gw 116 (by decide +kernel) (by decide +kernel), gw 2053 (by decide +kernel) (by decide +kernel), by decide +kernel, by decide⟩, gw 2051 (by decide +kernel) (by decide +kernel), gw 2052 (by decide +kernel) (by decide +kernel)⟩
theorem lkM_stars : Cond.methodLink RL 276 yX12_stars ∈ GW := gw 2050 (by decide +kernel) (by decide +kernel)
theorem case_stars {X : FX} {g : GT} {cL : ClassId} {A : Nat → Prop} {sk : Nat → Nat} {sb L : Nat} {sx : Nat → Int32} {kc ks : Nat} {Z : State → Prop} {n : Nat} {aM aC : Nat → Nat} {ext : List CD} {Mc Mm : Mem} {ao : Nat} {f : Nat → Int64} (C : CxL X g cL A sk sb L sx) (hL : L ≤ 3072) (hn : n + 5 < L) (hk : kc + 80 ≤ 601024 ∧ ks + 480 ≤ 7293034) (hJ : JI ext Mc Mm) (K : NX X g cL A sb kc ks Z n aM aC ext ao) : AtN X (g.1, g.2.1) (WS g aM aC ext Mc Mm ao cL f) A 7 kc ks Z 2589 (lvB n ao (aM 0) (aC 0) sb) [] := by
  have hD := hJ.1
  have hI := hJ.2.1
  have hW := hJ.2.2.1
  have h : segB code 2589 [(.aload_n 1, 1), (.aload_n 0, 1), (.iload 4, 2), (.iconst 1, 1), (.iadd, 1), (.iaload, 1), (.aload_n 0, 1), (.iload 4, 2), (.iconst 2, 1), (.iadd, 1), (.iaload, 1), (.aload_n 0, 1), (.iload 4, 2), (.iconst 3, 1), (.iadd, 1), (.iaload, 1), (.aload_n 0, 1), (.iload 4, 2), (.iconst 4, 1), (.iadd, 1), (.iaload, 1), (.aload_n 3, 1), (.invokestatic 274, 3), (.istore 5, 2), (.aload_n 2, 1), (.aload_n 0, 1), (.iload 4, 2), (.iconst 1, 1), (.iadd, 1), (.iaload, 1), (.aload_n 0, 1), (.iload 4, 2), (.iconst 2, 1), (.iadd, 1), (.iaload, 1), (.aload_n 0, 1), (.iload 4, 2), (.iconst 3, 1), (.iadd, 1), (.iaload, 1), (.aload_n 0, 1), (.iload 4, 2), (.iconst 4, 1), (.iadd, 1), (.iaload, 1), (.invokevirtual 276, 3), (.istore 6, 2), (.aload_n 2, 1), (.invokevirtual 165, 3), (.iload 5, 2), (.if_icmp .eq 5, 3), (.iconst 0, 1), (.ireturn, 1), (.iload 5, 2), (.ifCond .ne 15, 3), (.aload_n 3, 1), (.iconst 0, 1), (.laload, 1), (.iload 6, 2), (.i2l, 1), (.lcmp, 1), (.ifCond .eq 5, 3), (.iconst 0, 1), (.ireturn, 1), (.goto 887, 3)] = true := by decide +kernel
  obtain ⟨dx, h⟩ := seg1 h
  refine n_aload_n C.1.1 dx rfl ?_
  refine l_arg C h (n := n) (j := 1) rfl rfl (by decide) (by omega) hL (fun h => ?_)
  refine l_arg C h (n := n) (j := 2) rfl rfl (by decide) (by omega) hL (fun h => ?_)
  refine l_arg C h (n := n) (j := 3) rfl rfl (by decide) (by omega) hL (fun h => ?_)
  refine l_arg C h (n := n) (j := 4) rfl rfl (by decide) (by omega) hL (fun h => ?_)
  obtain ⟨dx, h⟩ := seg1 h
  refine n_aload_n C.1.1 dx rfl ?_
  obtain ⟨dx, h⟩ := seg1 h
  refine l_stat C [.ref (aC 0), .int (sx (n + 1)), .int (sx (n + 2)), .int (sx (n + 3)), .int (sx (n + 4)), .ref ao] mh_stars lkH_stars (hi_all (spI (Mm 1)) (fun i => hc_stars (g := gA g aC) (s_R_stars hD hI hW i.2 (qx2 (cv := cvI) hW)))) (by decide) rfl rfl (by decide) dx ⟨by omega, by omega⟩ (fun k Mc1 f1 hq => ?_)
  obtain ⟨dx, h⟩ := seg1 h
  refine n_istore C.1.1 dx (by decide) rfl ?_
  obtain ⟨dx, h⟩ := seg1 h
  refine n_aload_n C.1.1 dx rfl ?_
  refine l_arg C h (n := n) (j := 1) rfl rfl (by decide) (by omega) hL (fun h => ?_)
  refine l_arg C h (n := n) (j := 2) rfl rfl (by decide) (by omega) hL (fun h => ?_)
  refine l_arg C h (n := n) (j := 3) rfl rfl (by decide) (by omega) hL (fun h => ?_)
  refine l_arg C h (n := n) (j := 4) rfl rfl (by decide) (by omega) hL (fun h => ?_)
  obtain ⟨dx, h⟩ := seg1 h
  refine l_R C [.int (sx (n + 1)), .int (sx (n + 2)), .int (sx (n + 3)), .int (sx (n + 4))] meM_stars lkM_stars (ct_M_stars (g := gA g aM) (s_M_stars hI qsM)) (by decide) rfl rfl rfl (by decide) dx ⟨by omega, by omega⟩ (fun v Mm1 hv => ?_)
  obtain ⟨lo, hi, hS9, rfl, hS, e0⟩ := hv
  obtain ⟨M2, f2, ⟨e1, -, -, e2⟩, e3⟩ := hq.2 ⟨(lo, hi), hS9⟩
  obtain ⟨-, hF, hL1, -⟩ := hq.1
  refine tailI C h (by decide) (e0.trans e1.symm) (fun e => ?_) ⟨by omega, by omega⟩ (n_to rfl (by omega) (by omega) (K aC ext Mc1 Mm1 _ rfl (hJ.q hF hL1 hS) (Nat.le_add_right _ _)))
  rw [← e3, e2]
  exact fO_I (e1.symm.trans e)
theorem lkH_chance : Cond.methodLink RL 287 yL_chance ∈ GW := gw 1383 (by decide +kernel) (by decide +kernel)
theorem meM_chance : MeV yX12_chance cX12_chance 5 (some .int) 4 := ⟨⟨gw 116 (by decide +kernel) (by decide +kernel), gw 2073 (by decide +kernel) (by decide +kernel), by decide +kernel, by decide⟩, gw 2071 (by decide +kernel) (by decide +kernel), gw 2072 (by decide +kernel) (by decide +kernel)⟩
theorem lkM_chance : Cond.methodLink RL 289 yX12_chance ∈ GW := gw 2070 (by decide +kernel) (by decide +kernel)
theorem case_chance {X : FX} {g : GT} {cL : ClassId} {A : Nat → Prop} {sk : Nat → Nat} {sb L : Nat} {sx : Nat → Int32} {kc ks : Nat} {Z : State → Prop} {n : Nat} {aM aC : Nat → Nat} {ext : List CD} {Mc Mm : Mem} {ao : Nat} {f : Nat → Int64} (C : CxL X g cL A sk sb L sx) (hL : L ≤ 3072) (hn : n + 5 < L) (hk : kc + 80 ≤ 601024 ∧ ks + 480 ≤ 7293034) (hJ : JI ext Mc Mm) (K : NX X g cL A sb kc ks Z n aM aC ext ao) : AtN X (g.1, g.2.1) (WS g aM aC ext Mc Mm ao cL f) A 7 kc ks Z 2893 (lvB n ao (aM 0) (aC 0) sb) [] := by
  have hD := hJ.1
  have hI := hJ.2.1
  have hW := hJ.2.2.1
  have h : segB code 2893 [(.aload_n 1, 1), (.aload_n 0, 1), (.iload 4, 2), (.iconst 1, 1), (.iadd, 1), (.iaload, 1), (.aload_n 0, 1), (.iload 4, 2), (.iconst 2, 1), (.iadd, 1), (.iaload, 1), (.aload_n 0, 1), (.iload 4, 2), (.iconst 3, 1), (.iadd, 1), (.iaload, 1), (.aload_n 0, 1), (.iload 4, 2), (.iconst 4, 1), (.iadd, 1), (.iaload, 1), (.ifCond .eq 7, 3), (.iconst 1, 1), (.goto 4, 3), (.iconst 0, 1), (.aload_n 3, 1), (.invokestatic 287, 3), (.istore 5, 2), (.aload_n 2, 1), (.aload_n 0, 1), (.iload 4, 2), (.iconst 1, 1), (.iadd, 1), (.iaload, 1), (.aload_n 0, 1), (.iload 4, 2), (.iconst 2, 1), (.iadd, 1), (.iaload, 1), (.aload_n 0, 1), (.iload 4, 2), (.iconst 3, 1), (.iadd, 1), (.iaload, 1), (.aload_n 0, 1), (.iload 4, 2), (.iconst 4, 1), (.iadd, 1), (.iaload, 1), (.ifCond .eq 7, 3), (.iconst 1, 1), (.goto 4, 3), (.iconst 0, 1), (.invokevirtual 289, 3), (.istore 6, 2), (.aload_n 2, 1), (.invokevirtual 165, 3), (.iload 5, 2), (.if_icmp .eq 5, 3), (.iconst 0, 1), (.ireturn, 1), (.iload 5, 2), (.ifCond .ne 15, 3), (.aload_n 3, 1), (.iconst 0, 1), (.laload, 1), (.iload 6, 2), (.i2l, 1), (.lcmp, 1), (.ifCond .eq 5, 3), (.iconst 0, 1), (.ireturn, 1), (.goto 567, 3)] = true := by decide +kernel
  obtain ⟨dx, h⟩ := seg1 h
  refine n_aload_n C.1.1 dx rfl ?_
  refine l_arg C h (n := n) (j := 1) rfl rfl (by decide) (by omega) hL (fun h => ?_)
  refine l_arg C h (n := n) (j := 2) rfl rfl (by decide) (by omega) hL (fun h => ?_)
  refine l_arg C h (n := n) (j := 3) rfl rfl (by decide) (by omega) hL (fun h => ?_)
  refine l_arg C h (n := n) (j := 4) rfl rfl (by decide) (by omega) hL (fun h => ?_)
  refine l_bool C h (fun h => ?_)
  obtain ⟨dx, h⟩ := seg1 h
  refine n_aload_n C.1.1 dx rfl ?_
  obtain ⟨dx, h⟩ := seg1 h
  refine l_stat C [.ref (aC 0), .int (sx (n + 1)), .int (sx (n + 2)), .int (sx (n + 3)), .int (bi (decide (¬ sx (n + 4) = 0))), .ref ao] mh_chance lkH_chance (hi_all (spI (Mm 1)) (fun i => hc_chance (g := gA g aC) (s_R_chance hD hI hW i.2 (qx1 (cv := cvI) hW)))) (by decide) rfl rfl (by decide) dx ⟨by omega, by omega⟩ (fun k Mc1 f1 hq => ?_)
  obtain ⟨dx, h⟩ := seg1 h
  refine n_istore C.1.1 dx (by decide) rfl ?_
  obtain ⟨dx, h⟩ := seg1 h
  refine n_aload_n C.1.1 dx rfl ?_
  refine l_arg C h (n := n) (j := 1) rfl rfl (by decide) (by omega) hL (fun h => ?_)
  refine l_arg C h (n := n) (j := 2) rfl rfl (by decide) (by omega) hL (fun h => ?_)
  refine l_arg C h (n := n) (j := 3) rfl rfl (by decide) (by omega) hL (fun h => ?_)
  refine l_arg C h (n := n) (j := 4) rfl rfl (by decide) (by omega) hL (fun h => ?_)
  refine l_bool C h (fun h => ?_)
  obtain ⟨dx, h⟩ := seg1 h
  refine l_R C [.int (sx (n + 1)), .int (sx (n + 2)), .int (sx (n + 3)), .int (bi (decide (¬ sx (n + 4) = 0)))] meM_chance lkM_chance (ct_M_chance (g := gA g aM) (s_M_chance hI qsM)) (by decide) rfl rfl rfl (by decide) dx ⟨by omega, by omega⟩ (fun v Mm1 hv => ?_)
  obtain ⟨lo, hi, hS9, rfl, hS, e0⟩ := hv
  obtain ⟨M2, f2, ⟨e1, -, -, e2⟩, e3⟩ := hq.2 ⟨(lo, hi), hS9⟩
  obtain ⟨-, hF, hL1, -⟩ := hq.1
  refine tailI C h (by decide) (e0.trans e1.symm) (fun e => ?_) ⟨by omega, by omega⟩ (n_to rfl (by omega) (by omega) (K aC ext Mc1 Mm1 _ rfl (hJ.q hF hL1 hS) (Nat.le_add_right _ _)))
  rw [← e3, e2]
  exact fO_I (e1.symm.trans e)
theorem lkH_likely : Cond.methodLink RL 290 yL_likely ∈ GW := gw 1410 (by decide +kernel) (by decide +kernel)
theorem meM_likely : MeV yX12_likely cX12_likely 3 (some .int) 2 := ⟨⟨gw 116 (by decide +kernel) (by decide +kernel), gw 2088 (by decide +kernel) (by decide +kernel), by decide +kernel, by decide⟩, gw 2086 (by decide +kernel) (by decide +kernel), gw 2087 (by decide +kernel) (by decide +kernel)⟩
theorem lkM_likely : Cond.methodLink RL 292 yX12_likely ∈ GW := gw 2085 (by decide +kernel) (by decide +kernel)
theorem case_likely {X : FX} {g : GT} {cL : ClassId} {A : Nat → Prop} {sk : Nat → Nat} {sb L : Nat} {sx : Nat → Int32} {kc ks : Nat} {Z : State → Prop} {n : Nat} {aM aC : Nat → Nat} {ext : List CD} {Mc Mm : Mem} {ao : Nat} {f : Nat → Int64} (C : CxL X g cL A sk sb L sx) (hL : L ≤ 3072) (hn : n + 5 < L) (hk : kc + 80 ≤ 601024 ∧ ks + 480 ≤ 7293034) (hJ : JI ext Mc Mm) (K : NX X g cL A sb kc ks Z n aM aC ext ao) : AtN X (g.1, g.2.1) (WS g aM aC ext Mc Mm ao cL f) A 7 kc ks Z 3001 (lvB n ao (aM 0) (aC 0) sb) [] := by
  have hD := hJ.1
  have hI := hJ.2.1
  have hW := hJ.2.2.1
  have h : segB code 3001 [(.aload_n 1, 1), (.aload_n 0, 1), (.iload 4, 2), (.iconst 1, 1), (.iadd, 1), (.iaload, 1), (.aload_n 0, 1), (.iload 4, 2), (.iconst 2, 1), (.iadd, 1), (.iaload, 1), (.aload_n 3, 1), (.invokestatic 290, 3), (.istore 5, 2), (.aload_n 2, 1), (.aload_n 0, 1), (.iload 4, 2), (.iconst 1, 1), (.iadd, 1), (.iaload, 1), (.aload_n 0, 1), (.iload 4, 2), (.iconst 2, 1), (.iadd, 1), (.iaload, 1), (.invokevirtual 292, 3), (.istore 6, 2), (.aload_n 2, 1), (.invokevirtual 165, 3), (.iload 5, 2), (.if_icmp .eq 5, 3), (.iconst 0, 1), (.ireturn, 1), (.iload 5, 2), (.ifCond .ne 15, 3), (.aload_n 3, 1), (.iconst 0, 1), (.laload, 1), (.iload 6, 2), (.i2l, 1), (.lcmp, 1), (.ifCond .eq 5, 3), (.iconst 0, 1), (.ireturn, 1), (.goto 499, 3)] = true := by decide +kernel
  obtain ⟨dx, h⟩ := seg1 h
  refine n_aload_n C.1.1 dx rfl ?_
  refine l_arg C h (n := n) (j := 1) rfl rfl (by decide) (by omega) hL (fun h => ?_)
  refine l_arg C h (n := n) (j := 2) rfl rfl (by decide) (by omega) hL (fun h => ?_)
  obtain ⟨dx, h⟩ := seg1 h
  refine n_aload_n C.1.1 dx rfl ?_
  obtain ⟨dx, h⟩ := seg1 h
  refine l_stat C [.ref (aC 0), .int (sx (n + 1)), .int (sx (n + 2)), .ref ao] mh_likely lkH_likely (hi_all (spI (Mm 1)) (fun i => hc_likely (g := gA g aC) (s_R_likely hD hI hW i.2 (qx1 (cv := cvI) hW)))) (by decide) rfl rfl (by decide) dx ⟨by omega, by omega⟩ (fun k Mc1 f1 hq => ?_)
  obtain ⟨dx, h⟩ := seg1 h
  refine n_istore C.1.1 dx (by decide) rfl ?_
  obtain ⟨dx, h⟩ := seg1 h
  refine n_aload_n C.1.1 dx rfl ?_
  refine l_arg C h (n := n) (j := 1) rfl rfl (by decide) (by omega) hL (fun h => ?_)
  refine l_arg C h (n := n) (j := 2) rfl rfl (by decide) (by omega) hL (fun h => ?_)
  obtain ⟨dx, h⟩ := seg1 h
  refine l_R C [.int (sx (n + 1)), .int (sx (n + 2))] meM_likely lkM_likely (ct_M_likely (g := gA g aM) (s_M_likely hI qsM)) (by decide) rfl rfl rfl (by decide) dx ⟨by omega, by omega⟩ (fun v Mm1 hv => ?_)
  obtain ⟨lo, hi, hS9, rfl, hS, e0⟩ := hv
  obtain ⟨M2, f2, ⟨e1, -, -, e2⟩, e3⟩ := hq.2 ⟨(lo, hi), hS9⟩
  obtain ⟨-, hF, hL1, -⟩ := hq.1
  refine tailI C h (by decide) (e0.trans e1.symm) (fun e => ?_) ⟨by omega, by omega⟩ (n_to rfl (by omega) (by omega) (K aC ext Mc1 Mm1 _ rfl (hJ.q hF hL1 hS) (Nat.le_add_right _ _)))
  rw [← e3, e2]
  exact fO_I (e1.symm.trans e)
theorem lkH_forged : Cond.methodLink RL 293 yL_forged ∈ GW := gw 1422 (by decide +kernel) (by decide +kernel)
theorem meM_forged : MeV yX12_forged cX12_forged 6 (some .boolean) 3 := ⟨⟨gw 116 (by decide +kernel) (by decide +kernel), gw 2096 (by decide +kernel) (by decide +kernel), by decide +kernel, by decide⟩, gw 2094 (by decide +kernel) (by decide +kernel), gw 2095 (by decide +kernel) (by decide +kernel)⟩
theorem lkM_forged : Cond.methodLink RL 295 yX12_forged ∈ GW := gw 2093 (by decide +kernel) (by decide +kernel)
theorem case_forged {X : FX} {g : GT} {cL : ClassId} {A : Nat → Prop} {sk : Nat → Nat} {sb L : Nat} {sx : Nat → Int32} {kc ks : Nat} {Z : State → Prop} {n : Nat} {aM aC : Nat → Nat} {ext : List CD} {Mc Mm : Mem} {ao : Nat} {f : Nat → Int64} (C : CxL X g cL A sk sb L sx) (hL : L ≤ 3072) (hn : n + 5 < L) (hk : kc + 80 ≤ 601024 ∧ ks + 480 ≤ 7293034) (hJ : JI ext Mc Mm) (K : NX X g cL A sb kc ks Z n aM aC ext ao) : AtN X (g.1, g.2.1) (WS g aM aC ext Mc Mm ao cL f) A 7 kc ks Z 3069 (lvB n ao (aM 0) (aC 0) sb) [] := by
  have hD := hJ.1
  have hI := hJ.2.1
  have hW := hJ.2.2.1
  have h : segB code 3069 [(.aload_n 1, 1), (.aload_n 0, 1), (.iload 4, 2), (.iconst 1, 1), (.iadd, 1), (.iaload, 1), (.aload_n 0, 1), (.iload 4, 2), (.iconst 2, 1), (.iadd, 1), (.iaload, 1), (.aload_n 0, 1), (.iload 4, 2), (.iconst 3, 1), (.iadd, 1), (.iaload, 1), (.aload_n 3, 1), (.invokestatic 293, 3), (.istore 5, 2), (.aload_n 2, 1), (.aload_n 0, 1), (.iload 4, 2), (.iconst 1, 1), (.iadd, 1), (.iaload, 1), (.aload_n 0, 1), (.iload 4, 2), (.iconst 2, 1), (.iadd, 1), (.iaload, 1), (.aload_n 0, 1), (.iload 4, 2), (.iconst 3, 1), (.iadd, 1), (.iaload, 1), (.invokevirtual 295, 3), (.istore 6, 2), (.aload_n 2, 1), (.invokevirtual 165, 3), (.iload 5, 2), (.if_icmp .eq 5, 3), (.iconst 0, 1), (.ireturn, 1), (.iload 5, 2), (.ifCond .ne 22, 3), (.aload_n 3, 1), (.iconst 0, 1), (.laload, 1), (.iload 6, 2), (.ifCond .eq 7, 3), (.lconst 1, 1), (.goto 4, 3), (.lconst 0, 1), (.lcmp, 1), (.ifCond .eq 5, 3), (.iconst 0, 1), (.ireturn, 1), (.goto 412, 3)] = true := by decide +kernel
  obtain ⟨dx, h⟩ := seg1 h
  refine n_aload_n C.1.1 dx rfl ?_
  refine l_arg C h (n := n) (j := 1) rfl rfl (by decide) (by omega) hL (fun h => ?_)
  refine l_arg C h (n := n) (j := 2) rfl rfl (by decide) (by omega) hL (fun h => ?_)
  refine l_arg C h (n := n) (j := 3) rfl rfl (by decide) (by omega) hL (fun h => ?_)
  obtain ⟨dx, h⟩ := seg1 h
  refine n_aload_n C.1.1 dx rfl ?_
  obtain ⟨dx, h⟩ := seg1 h
  refine l_stat C [.ref (aC 0), .int (sx (n + 1)), .int (sx (n + 2)), .int (sx (n + 3)), .ref ao] mh_forged lkH_forged (hi_all (spI (Mm 1)) (fun i => hc_forged (g := gA g aC) (s_R_forged hD hI hW i.2 (qx1 (cv := cvZ) hW)))) (by decide) rfl rfl (by decide) dx ⟨by omega, by omega⟩ (fun k Mc1 f1 hq => ?_)
  obtain ⟨dx, h⟩ := seg1 h
  refine n_istore C.1.1 dx (by decide) rfl ?_
  obtain ⟨dx, h⟩ := seg1 h
  refine n_aload_n C.1.1 dx rfl ?_
  refine l_arg C h (n := n) (j := 1) rfl rfl (by decide) (by omega) hL (fun h => ?_)
  refine l_arg C h (n := n) (j := 2) rfl rfl (by decide) (by omega) hL (fun h => ?_)
  refine l_arg C h (n := n) (j := 3) rfl rfl (by decide) (by omega) hL (fun h => ?_)
  obtain ⟨dx, h⟩ := seg1 h
  refine l_R C [.int (sx (n + 1)), .int (sx (n + 2)), .int (sx (n + 3))] meM_forged lkM_forged (ct_M_forged (g := gA g aM) (s_M_forged hI qsM)) (by decide) rfl rfl rfl (by decide) dx ⟨by omega, by omega⟩ (fun v Mm1 hv => ?_)
  obtain ⟨lo, hi, hS9, rfl, hS, e0⟩ := hv
  obtain ⟨M2, f2, ⟨e1, -, -, e2⟩, e3⟩ := hq.2 ⟨(lo, hi), hS9⟩
  obtain ⟨-, hF, hL1, -⟩ := hq.1
  refine tailZ C h (by decide) (e0.trans e1.symm) (fun e => ?_) ⟨by omega, by omega⟩ (n_to rfl (by omega) (by omega) (K aC ext Mc1 Mm1 _ rfl (hJ.q hF hL1 hS) (Nat.le_add_right _ _)))
  rw [← e3, e2]
  exact fO_Z (e1.symm.trans e)
theorem lkH_sums : Cond.methodLink RL 296 yL_sums ∈ GW := gw 1433 (by decide +kernel) (by decide +kernel)
theorem meM_sums : MeV yX12_sums cX12_sums 10 (some .int) 3 := ⟨⟨gw 116 (by decide +kernel) (by decide +kernel), gw 2100 (by decide +kernel) (by decide +kernel), by decide +kernel, by decide⟩, gw 2098 (by decide +kernel) (by decide +kernel), gw 2099 (by decide +kernel) (by decide +kernel)⟩
theorem lkM_sums : Cond.methodLink RL 298 yX12_sums ∈ GW := gw 2097 (by decide +kernel) (by decide +kernel)
theorem case_sums {X : FX} {g : GT} {cL : ClassId} {A : Nat → Prop} {sk : Nat → Nat} {sb L : Nat} {sx : Nat → Int32} {kc ks : Nat} {Z : State → Prop} {n : Nat} {aM aC : Nat → Nat} {ext : List CD} {Mc Mm : Mem} {ao : Nat} {f : Nat → Int64} (C : CxL X g cL A sk sb L sx) (hL : L ≤ 3072) (hn : n + 5 < L) (hk : kc + 80 ≤ 601024 ∧ ks + 480 ≤ 7293034) (hJ : JI ext Mc Mm) (K : NX X g cL A sb kc ks Z n aM aC ext ao) : AtN X (g.1, g.2.1) (WS g aM aC ext Mc Mm ao cL f) A 7 kc ks Z 3156 (lvB n ao (aM 0) (aC 0) sb) [] := by
  have hD := hJ.1
  have hI := hJ.2.1
  have hW := hJ.2.2.1
  have h : segB code 3156 [(.aload_n 1, 1), (.aload_n 0, 1), (.iload 4, 2), (.iconst 1, 1), (.iadd, 1), (.iaload, 1), (.aload_n 0, 1), (.iload 4, 2), (.iconst 2, 1), (.iadd, 1), (.iaload, 1), (.aload_n 0, 1), (.iload 4, 2), (.iconst 3, 1), (.iadd, 1), (.iaload, 1), (.aload_n 3, 1), (.invokestatic 296, 3), (.istore 5, 2), (.aload_n 2, 1), (.aload_n 0, 1), (.iload 4, 2), (.iconst 1, 1), (.iadd, 1), (.iaload, 1), (.aload_n 0, 1), (.iload 4, 2), (.iconst 2, 1), (.iadd, 1), (.iaload, 1), (.aload_n 0, 1), (.iload 4, 2), (.iconst 3, 1), (.iadd, 1), (.iaload, 1), (.invokevirtual 298, 3), (.istore 6, 2), (.aload_n 2, 1), (.invokevirtual 165, 3), (.iload 5, 2), (.if_icmp .eq 5, 3), (.iconst 0, 1), (.ireturn, 1), (.iload 5, 2), (.ifCond .ne 15, 3), (.aload_n 3, 1), (.iconst 0, 1), (.laload, 1), (.iload 6, 2), (.i2l, 1), (.lcmp, 1), (.ifCond .eq 5, 3), (.iconst 0, 1), (.ireturn, 1), (.goto 332, 3)] = true := by decide +kernel
  obtain ⟨dx, h⟩ := seg1 h
  refine n_aload_n C.1.1 dx rfl ?_
  refine l_arg C h (n := n) (j := 1) rfl rfl (by decide) (by omega) hL (fun h => ?_)
  refine l_arg C h (n := n) (j := 2) rfl rfl (by decide) (by omega) hL (fun h => ?_)
  refine l_arg C h (n := n) (j := 3) rfl rfl (by decide) (by omega) hL (fun h => ?_)
  obtain ⟨dx, h⟩ := seg1 h
  refine n_aload_n C.1.1 dx rfl ?_
  obtain ⟨dx, h⟩ := seg1 h
  refine l_stat C [.ref (aC 0), .int (sx (n + 1)), .int (sx (n + 2)), .int (sx (n + 3)), .ref ao] mh_sums lkH_sums (hi_all (spI (Mm 1)) (fun i => hc_sums (g := gA g aC) (s_R_sums hD hI hW i.2 (qx2 (cv := cvI) hW)))) (by decide) rfl rfl (by decide) dx ⟨by omega, by omega⟩ (fun k Mc1 f1 hq => ?_)
  obtain ⟨dx, h⟩ := seg1 h
  refine n_istore C.1.1 dx (by decide) rfl ?_
  obtain ⟨dx, h⟩ := seg1 h
  refine n_aload_n C.1.1 dx rfl ?_
  refine l_arg C h (n := n) (j := 1) rfl rfl (by decide) (by omega) hL (fun h => ?_)
  refine l_arg C h (n := n) (j := 2) rfl rfl (by decide) (by omega) hL (fun h => ?_)
  refine l_arg C h (n := n) (j := 3) rfl rfl (by decide) (by omega) hL (fun h => ?_)
  obtain ⟨dx, h⟩ := seg1 h
  refine l_R C [.int (sx (n + 1)), .int (sx (n + 2)), .int (sx (n + 3))] meM_sums lkM_sums (ct_M_sums (g := gA g aM) (s_M_sums hI qsM)) (by decide) rfl rfl rfl (by decide) dx ⟨by omega, by omega⟩ (fun v Mm1 hv => ?_)
  obtain ⟨lo, hi, hS9, rfl, hS, e0⟩ := hv
  obtain ⟨M2, f2, ⟨e1, -, -, e2⟩, e3⟩ := hq.2 ⟨(lo, hi), hS9⟩
  obtain ⟨-, hF, hL1, -⟩ := hq.1
  refine tailI C h (by decide) (e0.trans e1.symm) (fun e => ?_) ⟨by omega, by omega⟩ (n_to rfl (by omega) (by omega) (K aC ext Mc1 Mm1 _ rfl (hJ.q hF hL1 hS) (Nat.le_add_right _ _)))
  rw [← e3, e2]
  exact fO_I (e1.symm.trans e)
theorem lkH_grain : Cond.methodLink RL 299 yL_grain ∈ GW := gw 1447 (by decide +kernel) (by decide +kernel)
theorem meM_grain : MeV yX12_grain cX12_grain 6 (some .int) 2 := ⟨⟨gw 116 (by decide +kernel) (by decide +kernel), gw 2104 (by decide +kernel) (by decide +kernel), by decide +kernel, by decide⟩, gw 2102 (by decide +kernel) (by decide +kernel), gw 2103 (by decide +kernel) (by decide +kernel)⟩
theorem lkM_grain : Cond.methodLink RL 301 yX12_grain ∈ GW := gw 2101 (by decide +kernel) (by decide +kernel)
theorem case_grain {X : FX} {g : GT} {cL : ClassId} {A : Nat → Prop} {sk : Nat → Nat} {sb L : Nat} {sx : Nat → Int32} {kc ks : Nat} {Z : State → Prop} {n : Nat} {aM aC : Nat → Nat} {ext : List CD} {Mc Mm : Mem} {ao : Nat} {f : Nat → Int64} (C : CxL X g cL A sk sb L sx) (hL : L ≤ 3072) (hn : n + 5 < L) (hk : kc + 80 ≤ 601024 ∧ ks + 480 ≤ 7293034) (hJ : JI ext Mc Mm) (K : NX X g cL A sb kc ks Z n aM aC ext ao) : AtN X (g.1, g.2.1) (WS g aM aC ext Mc Mm ao cL f) A 7 kc ks Z 3236 (lvB n ao (aM 0) (aC 0) sb) [] := by
  have hD := hJ.1
  have hI := hJ.2.1
  have hW := hJ.2.2.1
  have h : segB code 3236 [(.aload_n 1, 1), (.aload_n 0, 1), (.iload 4, 2), (.iconst 1, 1), (.iadd, 1), (.iaload, 1), (.aload_n 0, 1), (.iload 4, 2), (.iconst 2, 1), (.iadd, 1), (.iaload, 1), (.aload_n 3, 1), (.invokestatic 299, 3), (.istore 5, 2), (.aload_n 2, 1), (.aload_n 0, 1), (.iload 4, 2), (.iconst 1, 1), (.iadd, 1), (.iaload, 1), (.aload_n 0, 1), (.iload 4, 2), (.iconst 2, 1), (.iadd, 1), (.iaload, 1), (.invokevirtual 301, 3), (.istore 6, 2), (.aload_n 2, 1), (.invokevirtual 165, 3), (.iload 5, 2), (.if_icmp .eq 5, 3), (.iconst 0, 1), (.ireturn, 1), (.iload 5, 2), (.ifCond .ne 15, 3), (.aload_n 3, 1), (.iconst 0, 1), (.laload, 1), (.iload 6, 2), (.i2l, 1), (.lcmp, 1), (.ifCond .eq 5, 3), (.iconst 0, 1), (.ireturn, 1), (.goto 264, 3)] = true := by decide +kernel
  obtain ⟨dx, h⟩ := seg1 h
  refine n_aload_n C.1.1 dx rfl ?_
  refine l_arg C h (n := n) (j := 1) rfl rfl (by decide) (by omega) hL (fun h => ?_)
  refine l_arg C h (n := n) (j := 2) rfl rfl (by decide) (by omega) hL (fun h => ?_)
  obtain ⟨dx, h⟩ := seg1 h
  refine n_aload_n C.1.1 dx rfl ?_
  obtain ⟨dx, h⟩ := seg1 h
  refine l_stat C [.ref (aC 0), .int (sx (n + 1)), .int (sx (n + 2)), .ref ao] mh_grain lkH_grain (hi_all (spI (Mm 1)) (fun i => hc_grain (g := gA g aC) (s_R_grain hD hI hW i.2 (qx1 (cv := cvI) hW)))) (by decide) rfl rfl (by decide) dx ⟨by omega, by omega⟩ (fun k Mc1 f1 hq => ?_)
  obtain ⟨dx, h⟩ := seg1 h
  refine n_istore C.1.1 dx (by decide) rfl ?_
  obtain ⟨dx, h⟩ := seg1 h
  refine n_aload_n C.1.1 dx rfl ?_
  refine l_arg C h (n := n) (j := 1) rfl rfl (by decide) (by omega) hL (fun h => ?_)
  refine l_arg C h (n := n) (j := 2) rfl rfl (by decide) (by omega) hL (fun h => ?_)
  obtain ⟨dx, h⟩ := seg1 h
  refine l_R C [.int (sx (n + 1)), .int (sx (n + 2))] meM_grain lkM_grain (ct_M_grain (g := gA g aM) (s_M_grain hI qsM)) (by decide) rfl rfl rfl (by decide) dx ⟨by omega, by omega⟩ (fun v Mm1 hv => ?_)
  obtain ⟨lo, hi, hS9, rfl, hS, e0⟩ := hv
  obtain ⟨M2, f2, ⟨e1, -, -, e2⟩, e3⟩ := hq.2 ⟨(lo, hi), hS9⟩
  obtain ⟨-, hF, hL1, -⟩ := hq.1
  refine tailI C h (by decide) (e0.trans e1.symm) (fun e => ?_) ⟨by omega, by omega⟩ (n_to rfl (by omega) (by omega) (K aC ext Mc1 Mm1 _ rfl (hJ.q hF hL1 hS) (Nat.le_add_right _ _)))
  rw [← e3, e2]
  exact fO_I (e1.symm.trans e)
