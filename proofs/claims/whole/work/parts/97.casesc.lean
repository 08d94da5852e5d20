theorem lkH_explains : Cond.methodLink RL 238 yL_explains ∈ GW := gw 1102 (by decide +kernel) (by decide +kernel)
theorem meM_explains : MeV yX12_explains cX12_explains 4 (some .boolean) 3 := ⟨⟨gw 116 (by decide +kernel) (by decide +kernel), gw 1937 (by decide +kernel) (by decide +kernel), by decide +kernel, by decide⟩, gw 1935 (by decide +kernel) (by decide +kernel), gw 1936 (by decide +kernel) (by decide +kernel)⟩
theorem lkM_explains : Cond.methodLink RL 240 yX12_explains ∈ GW := gw 1934 (by decide +kernel) (by decide +kernel)
theorem case_explains {X : FX} {g : GT} {cL : ClassId} {A : Nat → Prop} {sk : Nat → Nat} {sb L : Nat} {sx : Nat → Int32} {kc ks : Nat} {Z : State → Prop} {n : Nat} {aM aC : Nat → Nat} {ext : List CD} {Mc Mm : Mem} {ao : Nat} {f : Nat → Int64} (C : CxL X g cL A sk sb L sx) (hL : L ≤ 3072) (hn : n + 5 < L) (hk : kc + 80 ≤ 601024 ∧ ks + 480 ≤ 7293034) (hJ : JI ext Mc Mm) (K : NX X g cL A sb kc ks Z n aM aC ext ao) : AtN X (g.1, g.2.1) (WS g aM aC ext Mc Mm ao cL f) A 7 kc ks Z 1654 (lvB n ao (aM 0) (aC 0) sb) [] := by
  have hD := hJ.1
  have hI := hJ.2.1
  have hW := hJ.2.2.1
  have h : segB code 1654 [(.aload_n 1, 1), (.aload_n 0, 1), (.iload 4, 2), (.iconst 1, 1), (.iadd, 1), (.iaload, 1), (.aload_n 0, 1), (.iload 4, 2), (.iconst 2, 1), (.iadd, 1), (.iaload, 1), (.aload_n 0, 1), (.iload 4, 2), (.iconst 3, 1), (.iadd, 1), (.iaload, 1), (.aload_n 3, 1), (.invokestatic 238, 3), (.istore 5, 2), (.aload_n 2, 1), (.aload_n 0, 1), (.iload 4, 2), (.iconst 1, 1), (.iadd, 1), (.iaload, 1), (.aload_n 0, 1), (.iload 4, 2), (.iconst 2, 1), (.iadd, 1), (.iaload, 1), (.aload_n 0, 1), (.iload 4, 2), (.iconst 3, 1), (.iadd, 1), (.iaload, 1), (.invokevirtual 240, 3), (.istore 6, 2), (.aload_n 2, 1), (.invokevirtual 165, 3), (.iload 5, 2), (.if_icmp .eq 5, 3), (.iconst 0, 1), (.ireturn, 1), (.iload 5, 2), (.ifCond .ne 22, 3), (.aload_n 3, 1), (.iconst 0, 1), (.laload, 1), (.iload 6, 2), (.ifCond .eq 7, 3), (.lconst 1, 1), (.goto 4, 3), (.lconst 0, 1), (.lcmp, 1), (.ifCond .eq 5, 3), (.iconst 0, 1), (.ireturn, 1), (.goto 1827, 3)] = true := by decide +kernel
  obtain ⟨dx, h⟩ := seg1 h
  refine n_aload_n C.1.1 dx rfl ?_
  refine l_arg C h (n := n) (j := 1) rfl rfl (by decide) (by omega) hL (fun h => ?_)
  refine l_arg C h (n := n) (j := 2) rfl rfl (by decide) (by omega) hL (fun h => ?_)
  refine l_arg C h (n := n) (j := 3) rfl rfl (by decide) (by omega) hL (fun h => ?_)
  obtain ⟨dx, h⟩ := seg1 h
  refine n_aload_n C.1.1 dx rfl ?_
  obtain ⟨dx, h⟩ := seg1 h
  refine l_stat C [.ref (aC 0), .int (sx (n + 1)), .int (sx (n + 2)), .int (sx (n + 3)), .ref ao] mh_explains lkH_explains (hi_all (spI (Mm 1)) (fun i => hc_explains (g := gA g aC) (s_R_explains hD hI hW i.2 (qx2 (cv := cvZ) hW)))) (by decide) rfl rfl (by decide) dx ⟨by omega, by omega⟩ (fun k Mc1 f1 hq => ?_)
  obtain ⟨dx, h⟩ := seg1 h
  refine n_istore C.1.1 dx (by decide) rfl ?_
  obtain ⟨dx, h⟩ := seg1 h
  refine n_aload_n C.1.1 dx rfl ?_
  refine l_arg C h (n := n) (j := 1) rfl rfl (by decide) (by omega) hL (fun h => ?_)
  refine l_arg C h (n := n) (j := 2) rfl rfl (by decide) (by omega) hL (fun h => ?_)
  refine l_arg C h (n := n) (j := 3) rfl rfl (by decide) (by omega) hL (fun h => ?_)
  obtain ⟨dx, h⟩ := seg1 h
  refine l_R C [.int (sx (n + 1)), .int (sx (n + 2)), .int (sx (n + 3))] meM_explains lkM_explains (ct_M_explains (g := gA g aM) (s_M_explains hI qsM)) (by decide) rfl rfl rfl (by decide) dx ⟨by omega, by omega⟩ (fun v Mm1 hv => ?_)
  obtain ⟨lo, hi, hS9, rfl, hS, e0⟩ := hv
  obtain ⟨M2, f2, ⟨e1, -, -, e2⟩, e3⟩ := hq.2 ⟨(lo, hi), hS9⟩
  obtain ⟨-, hF, hL1, -⟩ := hq.1
  refine tailZ C h (by decide) (e0.trans e1.symm) (fun e => ?_) ⟨by omega, by omega⟩ (n_to rfl (by omega) (by omega) (K aC ext Mc1 Mm1 _ rfl (hJ.q hF hL1 hS) (Nat.le_add_right _ _)))
  rw [← e3, e2]
  exact fO_Z (e1.symm.trans e)
theorem lkH_sets : Cond.methodLink RL 241 yL_sets ∈ GW := gw 1151 (by decide +kernel) (by decide +kernel)
theorem meM_sets : MeV yX12_sets cX12_sets 3 (some .int) 2 := ⟨⟨gw 116 (by decide +kernel) (by decide +kernel), gw 1993 (by decide +kernel) (by decide +kernel), by decide +kernel, by decide⟩, gw 1991 (by decide +kernel) (by decide +kernel), gw 1992 (by decide +kernel) (by decide +kernel)⟩
theorem lkM_sets : Cond.methodLink RL 243 yX12_sets ∈ GW := gw 1990 (by decide +kernel) (by decide +kernel)
theorem case_sets {X : FX} {g : GT} {cL : ClassId} {A : Nat → Prop} {sk : Nat → Nat} {sb L : Nat} {sx : Nat → Int32} {kc ks : Nat} {Z : State → Prop} {n : Nat} {aM aC : Nat → Nat} {ext : List CD} {Mc Mm : Mem} {ao : Nat} {f : Nat → Int64} (C : CxL X g cL A sk sb L sx) (hL : L ≤ 3072) (hn : n + 5 < L) (hk : kc + 80 ≤ 601024 ∧ ks + 480 ≤ 7293034) (hJ : JI ext Mc Mm) (K : NX X g cL A sb kc ks Z n aM aC ext ao) : AtN X (g.1, g.2.1) (WS g aM aC ext Mc Mm ao cL f) A 7 kc ks Z 1741 (lvB n ao (aM 0) (aC 0) sb) [] := by
  have hD := hJ.1
  have hI := hJ.2.1
  have hW := hJ.2.2.1
  have h : segB code 1741 [(.aload_n 1, 1), (.aload_n 0, 1), (.iload 4, 2), (.iconst 1, 1), (.iadd, 1), (.iaload, 1), (.aload_n 0, 1), (.iload 4, 2), (.iconst 2, 1), (.iadd, 1), (.iaload, 1), (.aload_n 3, 1), (.invokestatic 241, 3), (.istore 5, 2), (.aload_n 2, 1), (.aload_n 0, 1), (.iload 4, 2), (.iconst 1, 1), (.iadd, 1), (.iaload, 1), (.aload_n 0, 1), (.iload 4, 2), (.iconst 2, 1), (.iadd, 1), (.iaload, 1), (.invokevirtual 243, 3), (.istore 6, 2), (.aload_n 2, 1), (.invokevirtual 165, 3), (.iload 5, 2), (.if_icmp .eq 5, 3), (.iconst 0, 1), (.ireturn, 1), (.iload 5, 2), (.ifCond .ne 15, 3), (.aload_n 3, 1), (.iconst 0, 1), (.laload, 1), (.iload 6, 2), (.i2l, 1), (.lcmp, 1), (.ifCond .eq 5, 3), (.iconst 0, 1), (.ireturn, 1), (.goto 1759, 3)] = true := by decide +kernel
  obtain ⟨dx, h⟩ := seg1 h
  refine n_aload_n C.1.1 dx rfl ?_
  refine l_arg C h (n := n) (j := 1) rfl rfl (by decide) (by omega) hL (fun h => ?_)
  refine l_arg C h (n := n) (j := 2) rfl rfl (by decide) (by omega) hL (fun h => ?_)
  obtain ⟨dx, h⟩ := seg1 h
  refine n_aload_n C.1.1 dx rfl ?_
  obtain ⟨dx, h⟩ := seg1 h
  refine l_stat C [.ref (aC 0), .int (sx (n + 1)), .int (sx (n + 2)), .ref ao] mh_sets lkH_sets (hi_all (spI (Mm 1)) (fun i => hc_sets (g := gA g aC) (s_R_sets hD hI hW i.2 (qx2 (cv := cvI) hW)))) (by decide) rfl rfl (by decide) dx ⟨by omega, by omega⟩ (fun k Mc1 f1 hq => ?_)
  obtain ⟨dx, h⟩ := seg1 h
  refine n_istore C.1.1 dx (by decide) rfl ?_
  obtain ⟨dx, h⟩ := seg1 h
  refine n_aload_n C.1.1 dx rfl ?_
  refine l_arg C h (n := n) (j := 1) rfl rfl (by decide) (by omega) hL (fun h => ?_)
  refine l_arg C h (n := n) (j := 2) rfl rfl (by decide) (by omega) hL (fun h => ?_)
  obtain ⟨dx, h⟩ := seg1 h
  refine l_R C [.int (sx (n + 1)), .int (sx (n + 2))] meM_sets lkM_sets (ct_M_sets (g := gA g aM) (s_M_sets hI qsM)) (by decide) rfl rfl rfl (by decide) dx ⟨by omega, by omega⟩ (fun v Mm1 hv => ?_)
  obtain ⟨lo, hi, hS9, rfl, hS, e0⟩ := hv
  obtain ⟨M2, f2, ⟨e1, -, -, e2⟩, e3⟩ := hq.2 ⟨(lo, hi), hS9⟩
  obtain ⟨-, hF, hL1, -⟩ := hq.1
  refine tailI C h (by decide) (e0.trans e1.symm) (fun e => ?_) ⟨by omega, by omega⟩ (n_to rfl (by omega) (by omega) (K aC ext Mc1 Mm1 _ rfl (hJ.q hF hL1 hS) (Nat.le_add_right _ _)))
  rw [← e3, e2]
  exact fO_I (e1.symm.trans e)
theorem lkH_left : Cond.methodLink RL 244 yL_left ∈ GW := gw 1176 (by decide +kernel) (by decide +kernel)
theorem meM_left : MeV yX12_left cX12_left 4 (some .int) 3 := ⟨⟨gw 116 (by decide +kernel) (by decide +kernel), gw 1985 (by decide +kernel) (by decide +kernel), by decide +kernel, by decide⟩, gw 1983 (by decide +kernel) (by decide +kernel), gw 1984 (by decide +kernel) (by decide +kernel)⟩
theorem lkM_left : Cond.methodLink RL 246 yX12_left ∈ GW := gw 1982 (by decide +kernel) (by decide +kernel)
theorem case_left {X : FX} {g : GT} {cL : ClassId} {A : Nat → Prop} {sk : Nat → Nat} {sb L : Nat} {sx : Nat → Int32} {kc ks : Nat} {Z : State → Prop} {n : Nat} {aM aC : Nat → Nat} {ext : List CD} {Mc Mm : Mem} {ao : Nat} {f : Nat → Int64} (C : CxL X g cL A sk sb L sx) (hL : L ≤ 3072) (hn : n + 5 < L) (hk : kc + 80 ≤ 601024 ∧ ks + 480 ≤ 7293034) (hJ : JI ext Mc Mm) (K : NX X g cL A sb kc ks Z n aM aC ext ao) : AtN X (g.1, g.2.1) (WS g aM aC ext Mc Mm ao cL f) A 7 kc ks Z 1809 (lvB n ao (aM 0) (aC 0) sb) [] := by
  have hD := hJ.1
  have hI := hJ.2.1
  have hW := hJ.2.2.1
  have h : segB code 1809 [(.aload_n 1, 1), (.aload_n 0, 1), (.iload 4, 2), (.iconst 1, 1), (.iadd, 1), (.iaload, 1), (.aload_n 0, 1), (.iload 4, 2), (.iconst 2, 1), (.iadd, 1), (.iaload, 1), (.aload_n 0, 1), (.iload 4, 2), (.iconst 3, 1), (.iadd, 1), (.iaload, 1), (.aload_n 3, 1), (.invokestatic 244, 3), (.istore 5, 2), (.aload_n 2, 1), (.aload_n 0, 1), (.iload 4, 2), (.iconst 1, 1), (.iadd, 1), (.iaload, 1), (.aload_n 0, 1), (.iload 4, 2), (.iconst 2, 1), (.iadd, 1), (.iaload, 1), (.aload_n 0, 1), (.iload 4, 2), (.iconst 3, 1), (.iadd, 1), (.iaload, 1), (.invokevirtual 246, 3), (.istore 6, 2), (.aload_n 2, 1), (.invokevirtual 165, 3), (.iload 5, 2), (.if_icmp .eq 5, 3), (.iconst 0, 1), (.ireturn, 1), (.iload 5, 2), (.ifCond .ne 15, 3), (.aload_n 3, 1), (.iconst 0, 1), (.laload, 1), (.iload 6, 2), (.i2l, 1), (.lcmp, 1), (.ifCond .eq 5, 3), (.iconst 0, 1), (.ireturn, 1), (.goto 1679, 3)] = true := by decide +kernel
  obtain ⟨dx, h⟩ := seg1 h
  refine n_aload_n C.1.1 dx rfl ?_
  refine l_arg C h (n := n) (j := 1) rfl rfl (by decide) (by omega) hL (fun h => ?_)
  refine l_arg C h (n := n) (j := 2) rfl rfl (by decide) (by omega) hL (fun h => ?_)
  refine l_arg C h (n := n) (j := 3) rfl rfl (by decide) (by omega) hL (fun h => ?_)
  obtain ⟨dx, h⟩ := seg1 h
  refine n_aload_n C.1.1 dx rfl ?_
  obtain ⟨dx, h⟩ := seg1 h
  refine l_stat C [.ref (aC 0), .int (sx (n + 1)), .int (sx (n + 2)), .int (sx (n + 3)), .ref ao] mh_left lkH_left (hi_all (spI (Mm 1)) (fun i => hc_left (g := gA g aC) (s_R_left hD hI hW i.2 (qx2 (cv := cvI) hW)))) (by decide) rfl rfl (by decide) dx ⟨by omega, by omega⟩ (fun k Mc1 f1 hq => ?_)
  obtain ⟨dx, h⟩ := seg1 h
  refine n_istore C.1.1 dx (by decide) rfl ?_
  obtain ⟨dx, h⟩ := seg1 h
  refine n_aload_n C.1.1 dx rfl ?_
  refine l_arg C h (n := n) (j := 1) rfl rfl (by decide) (by omega) hL (fun h => ?_)
  refine l_arg C h (n := n) (j := 2) rfl rfl (by decide) (by omega) hL (fun h => ?_)
  refine l_arg C h (n := n) (j := 3) rfl rfl (by decide) (by omega) hL (fun h => ?_)
  obtain ⟨dx, h⟩ := seg1 h
  refine l_R C [.int (sx (n + 1)), .int (sx (n + 2)), .int (sx (n + 3))] meM_left lkM_left (ct_M_left (g := gA g aM) (s_M_left hI qsM)) (by decide) rfl rfl rfl (by decide) dx ⟨by omega, by omega⟩ (fun v Mm1 hv => ?_)
  obtain ⟨lo, hi, hS9, rfl, hS, e0⟩ := hv
  obtain ⟨M2, f2, ⟨e1, -, -, e2⟩, e3⟩ := hq.2 ⟨(lo, hi), hS9⟩
  obtain ⟨-, hF, hL1, -⟩ := hq.1
  refine tailI C h (by decide) (e0.trans e1.symm) (fun e => ?_) ⟨by omega, by omega⟩ (n_to rfl (by omega) (by omega) (K aC ext Mc1 Mm1 _ rfl (hJ.q hF hL1 hS) (Nat.le_add_right _ _)))
  rw [← e3, e2]
  exact fO_I (e1.symm.trans e)
theorem lkH_missed : Cond.methodLink RL 247 yL_missed ∈ GW := gw 1187 (by decide +kernel) (by decide +kernel)
theorem meM_missed : MeV yX12_missed cX12_missed 4 (some .int) 3 := ⟨⟨gw 116 (by decide +kernel) (by decide +kernel), gw 1989 (by decide +kernel) (by decide +kernel), by decide +kernel, by decide⟩, gw 1987 (by decide +kernel) (by decide +kernel), gw 1988 (by decide +kernel) (by decide +kernel)⟩
theorem lkM_missed : Cond.methodLink RL 249 yX12_missed ∈ GW := gw 1986 (by decide +kernel) (by decide +kernel)
theorem case_missed {X : FX} {g : GT} {cL : ClassId} {A : Nat → Prop} {sk : Nat → Nat} {sb L : Nat} {sx : Nat → Int32} {kc ks : Nat} {Z : State → Prop} {n : Nat} {aM aC : Nat → Nat} {ext : List CD} {Mc Mm : Mem} {ao : Nat} {f : Nat → Int64} (C : CxL X g cL A sk sb L sx) (hL : L ≤ 3072) (hn : n + 5 < L) (hk : kc + 80 ≤ 601024 ∧ ks + 480 ≤ 7293034) (hJ : JI ext Mc Mm) (K : NX X g cL A sb kc ks Z n aM aC ext ao) : AtN X (g.1, g.2.1) (WS g aM aC ext Mc Mm ao cL f) A 7 kc ks Z 1889 (lvB n ao (aM 0) (aC 0) sb) [] := by
  have hD := hJ.1
  have hI := hJ.2.1
  have hW := hJ.2.2.1
  have h : segB code 1889 [(.aload_n 1, 1), (.aload_n 0, 1), (.iload 4, 2), (.iconst 1, 1), (.iadd, 1), (.iaload, 1), (.aload_n 0, 1), (.iload 4, 2), (.iconst 2, 1), (.iadd, 1), (.iaload, 1), (.aload_n 0, 1), (.iload 4, 2), (.iconst 3, 1), (.iadd, 1), (.iaload, 1), (.aload_n 3, 1), (.invokestatic 247, 3), (.istore 5, 2), (.aload_n 2, 1), (.aload_n 0, 1), (.iload 4, 2), (.iconst 1, 1), (.iadd, 1), (.iaload, 1), (.aload_n 0, 1), (.iload 4, 2), (.iconst 2, 1), (.iadd, 1), (.iaload, 1), (.aload_n 0, 1), (.iload 4, 2), (.iconst 3, 1), (.iadd, 1), (.iaload, 1), (.invokevirtual 249, 3), (.istore 6, 2), (.aload_n 2, 1), (.invokevirtual 165, 3), (.iload 5, 2), (.if_icmp .eq 5, 3), (.iconst 0, 1), (.ireturn, 1), (.iload 5, 2), (.ifCond .ne 15, 3), (.aload_n 3, 1), (.iconst 0, 1), (.laload, 1), (.iload 6, 2), (.i2l, 1), (.lcmp, 1), (.ifCond .eq 5, 3), (.iconst 0, 1), (.ireturn, 1), (.goto 1599, 3)] = true := by decide +kernel
  obtain ⟨dx, h⟩ := seg1 h
  refine n_aload_n C.1.1 dx rfl ?_
  refine l_arg C h (n := n) (j := 1) rfl rfl (by decide) (by omega) hL (fun h => ?_)
  refine l_arg C h (n := n) (j := 2) rfl rfl (by decide) (by omega) hL (fun h => ?_)
  refine l_arg C h (n := n) (j := 3) rfl rfl (by decide) (by omega) hL (fun h => ?_)
  obtain ⟨dx, h⟩ := seg1 h
  refine n_aload_n C.1.1 dx rfl ?_
  obtain ⟨dx, h⟩ := seg1 h
  refine l_stat C [.ref (aC 0), .int (sx (n + 1)), .int (sx (n + 2)), .int (sx (n + 3)), .ref ao] mh_missed lkH_missed (hi_all (spI (Mm 1)) (fun i => hc_missed (g := gA g aC) (s_R_missed hD hI hW i.2 (qx2 (cv := cvI) hW)))) (by decide) rfl rfl (by decide) dx ⟨by omega, by omega⟩ (fun k Mc1 f1 hq => ?_)
  obtain ⟨dx, h⟩ := seg1 h
  refine n_istore C.1.1 dx (by decide) rfl ?_
  obtain ⟨dx, h⟩ := seg1 h
  refine n_aload_n C.1.1 dx rfl ?_
  refine l_arg C h (n := n) (j := 1) rfl rfl (by decide) (by omega) hL (fun h => ?_)
  refine l_arg C h (n := n) (j := 2) rfl rfl (by decide) (by omega) hL (fun h => ?_)
  refine l_arg C h (n := n) (j := 3) rfl rfl (by decide) (by omega) hL (fun h => ?_)
  obtain ⟨dx, h⟩ := seg1 h
  refine l_R C [.int (sx (n + 1)), .int (sx (n + 2)), .int (sx (n + 3))] meM_missed lkM_missed (ct_M_missed (g := gA g aM) (s_M_missed hI qsM)) (by decide) rfl rfl rfl (by decide) dx ⟨by omega, by omega⟩ (fun v Mm1 hv => ?_)
  obtain ⟨lo, hi, hS9, rfl, hS, e0⟩ := hv
  obtain ⟨M2, f2, ⟨e1, -, -, e2⟩, e3⟩ := hq.2 ⟨(lo, hi), hS9⟩
  obtain ⟨-, hF, hL1, -⟩ := hq.1
  refine tailI C h (by decide) (e0.trans e1.symm) (fun e => ?_) ⟨by omega, by omega⟩ (n_to rfl (by omega) (by omega) (K aC ext Mc1 Mm1 _ rfl (hJ.q hF hL1 hS) (Nat.le_add_right _ _)))
  rw [← e3, e2]
  exact fO_I (e1.symm.trans e)
theorem lkH_speeds : Cond.methodLink RL 250 yL_speeds ∈ GW := gw 1196 (by decide +kernel) (by decide +kernel)
theorem meM_speeds : MeV yX12_speeds cX12_speeds 8 (some .int) 3 := ⟨⟨gw 116 (by decide +kernel) (by decide +kernel), gw 2002 (by decide +kernel) (by decide +kernel), by decide +kernel, by decide⟩, gw 2000 (by decide +kernel) (by decide +kernel), gw 2001 (by decide +kernel) (by decide +kernel)⟩
theorem lkM_speeds : Cond.methodLink RL 252 yX12_speeds ∈ GW := gw 1999 (by decide +kernel) (by decide +kernel)
theorem case_speeds {X : FX} {g : GT} {cL : ClassId} {A : Nat → Prop} {sk : Nat → Nat} {sb L : Nat} {sx : Nat → Int32} {kc ks : Nat} {Z : State → Prop} {n : Nat} {aM aC : Nat → Nat} {ext : List CD} {Mc Mm : Mem} {ao : Nat} {f : Nat → Int64} (C : CxL X g cL A sk sb L sx) (hL : L ≤ 3072) (hn : n + 5 < L) (hk : kc + 80 ≤ 601024 ∧ ks + 480 ≤ 7293034) (hJ : JI ext Mc Mm) (K : NX X g cL A sb kc ks Z n aM aC ext ao) : AtN X (g.1, g.2.1) (WS g aM aC ext Mc Mm ao cL f) A 7 kc ks Z 1969 (lvB n ao (aM 0) (aC 0) sb) [] := by
  have hD := hJ.1
  have hI := hJ.2.1
  have hW := hJ.2.2.1
  have h : segB code 1969 [(.aload_n 1, 1), (.aload_n 0, 1), (.iload 4, 2), (.iconst 1, 1), (.iadd, 1), (.iaload, 1), (.aload_n 0, 1), (.iload 4, 2), (.iconst 2, 1), (.iadd, 1), (.iaload, 1), (.aload_n 0, 1), (.iload 4, 2), (.iconst 3, 1), (.iadd, 1), (.iaload, 1), (.aload_n 3, 1), (.invokestatic 250, 3), (.istore 5, 2), (.aload_n 2, 1), (.aload_n 0, 1), (.iload 4, 2), (.iconst 1, 1), (.iadd, 1), (.iaload, 1), (.aload_n 0, 1), (.iload 4, 2), (.iconst 2, 1), (.iadd, 1), (.iaload, 1), (.aload_n 0, 1), (.iload 4, 2), (.iconst 3, 1), (.iadd, 1), (.iaload, 1), (.invokevirtual 252, 3), (.istore 6, 2), (.aload_n 2, 1), (.invokevirtual 165, 3), (.iload 5, 2), (.if_icmp .eq 5, 3), (.iconst 0, 1), (.ireturn, 1), (.iload 5, 2), (.ifCond .ne 15, 3), (.aload_n 3, 1), (.iconst 0, 1), (.laload, 1), (.iload 6, 2), (.i2l, 1), (.lcmp, 1), (.ifCond .eq 5, 3), (.iconst 0, 1), (.ireturn, 1), (.goto 1519, 3)] = true := by decide +kernel
  obtain ⟨dx, h⟩ := seg1 h
  refine n_aload_n C.1.1 dx rfl ?_
  refine l_arg C h (n := n) (j := 1) rfl rfl (by decide) (by omega) hL (fun h => ?_)
  refine l_arg C h (n := n) (j := 2) rfl rfl (by decide) (by omega) hL (fun h => ?_)
  refine l_arg C h (n := n) (j := 3) rfl rfl (by decide) (by omega) hL (fun h => ?_)
  obtain ⟨dx, h⟩ := seg1 h
  refine n_aload_n C.1.1 dx rfl ?_
  obtain ⟨dx, h⟩ := seg1 h
  refine l_stat C [.ref (aC 0), .int (sx (n + 1)), .int (sx (n + 2)), .int (sx (n + 3)), .ref ao] mh_speeds lkH_speeds (hi_all (spI (Mm 1)) (fun i => hc_speeds (g := gA g aC) (s_R_speeds hD hI hW i.2 (qx2 (cv := cvI) hW)))) (by decide) rfl rfl (by decide) dx ⟨by omega, by omega⟩ (fun k Mc1 f1 hq => ?_)
  obtain ⟨dx, h⟩ := seg1 h
  refine n_istore C.1.1 dx (by decide) rfl ?_
  obtain ⟨dx, h⟩ := seg1 h
  refine n_aload_n C.1.1 dx rfl ?_
  refine l_arg C h (n := n) (j := 1) rfl rfl (by decide) (by omega) hL (fun h => ?_)
  refine l_arg C h (n := n) (j := 2) rfl rfl (by decide) (by omega) hL (fun h => ?_)
  refine l_arg C h (n := n) (j := 3) rfl rfl (by decide) (by omega) hL (fun h => ?_)
  obtain ⟨dx, h⟩ := seg1 h
  refine l_R C [.int (sx (n + 1)), .int (sx (n + 2)), .int (sx (n + 3))] meM_speeds lkM_speeds (ct_M_speeds (g := gA g aM) (s_M_speeds hI qsM)) (by decide) rfl rfl rfl (by decide) dx ⟨by omega, by omega⟩ (fun v Mm1 hv => ?_)
  obtain ⟨lo, hi, hS9, rfl, hS, e0⟩ := hv
  obtain ⟨M2, f2, ⟨e1, -, -, e2⟩, e3⟩ := hq.2 ⟨(lo, hi), hS9⟩
  obtain ⟨-, hF, hL1, -⟩ := hq.1
  refine tailI C h (by decide) (e0.trans e1.symm) (fun e => ?_) ⟨by omega, by omega⟩ (n_to rfl (by omega) (by omega) (K aC ext Mc1 Mm1 _ rfl (hJ.q hF hL1 hS) (Nat.le_add_right _ _)))
  rw [← e3, e2]
  exact fO_I (e1.symm.trans e)
theorem lkH_amount : Cond.methodLink RL 253 yL_amount ∈ GW := gw 1203 (by decide +kernel) (by decide +kernel)
theorem meM_amount : MeV yX12_amount cX12_amount 7 (some .int) 4 := ⟨⟨gw 116 (by decide +kernel) (by decide +kernel), gw 2006 (by decide +kernel) (by decide +kernel), by decide +kernel, by decide⟩, gw 2004 (by decide +kernel) (by decide +kernel), gw 2005 (by decide +kernel) (by decide +kernel)⟩
theorem lkM_amount : Cond.methodLink RL 256 yX12_amount ∈ GW := gw 2003 (by decide +kernel) (by decide +kernel)
theorem case_amount {X : FX} {g : GT} {cL : ClassId} {A : Nat → Prop} {sk : Nat → Nat} {sb L : Nat} {sx : Nat → Int32} {kc ks : Nat} {Z : State → Prop} {n : Nat} {aM aC : Nat → Nat} {ext : List CD} {Mc Mm : Mem} {ao : Nat} {f : Nat → Int64} (C : CxL X g cL A sk sb L sx) (hL : L ≤ 3072) (hn : n + 5 < L) (hk : kc + 80 ≤ 601024 ∧ ks + 480 ≤ 7293034) (hJ : JI ext Mc Mm) (K : NX X g cL A sb kc ks Z n aM aC ext ao) : AtN X (g.1, g.2.1) (WS g aM aC ext Mc Mm ao cL f) A 7 kc ks Z 2049 (lvB n ao (aM 0) (aC 0) sb) [] := by
  have hD := hJ.1
  have hI := hJ.2.1
  have hW := hJ.2.2.1
  have h : segB code 2049 [(.aload_n 1, 1), (.aload_n 0, 1), (.iload 4, 2), (.iconst 1, 1), (.iadd, 1), (.iaload, 1), (.aload_n 0, 1), (.iload 4, 2), (.iconst 2, 1), (.iadd, 1), (.iaload, 1), (.aload_n 0, 1), (.iload 4, 2), (.iconst 3, 1), (.iadd, 1), (.iaload, 1), (.aload_n 0, 1), (.iload 4, 2), (.iconst 4, 1), (.iadd, 1), (.iaload, 1), (.ifCond .eq 7, 3), (.iconst 1, 1), (.goto 4, 3), (.iconst 0, 1), (.aload_n 3, 1), (.invokestatic 253, 3), (.istore 5, 2), (.aload_n 2, 1), (.aload_n 0, 1), (.iload 4, 2), (.iconst 1, 1), (.iadd, 1), (.iaload, 1), (.aload_n 0, 1), (.iload 4, 2), (.iconst 2, 1), (.iadd, 1), (.iaload, 1), (.aload_n 0, 1), (.iload 4, 2), (.iconst 3, 1), (.iadd, 1), (.iaload, 1), (.aload_n 0, 1), (.iload 4, 2), (.iconst 4, 1), (.iadd, 1), (.iaload, 1), (.ifCond .eq 7, 3), (.iconst 1, 1), (.goto 4, 3), (.iconst 0, 1), (.invokevirtual 256, 3), (.istore 6, 2), (.aload_n 2, 1), (.invokevirtual 165, 3), (.iload 5, 2), (.if_icmp .eq 5, 3), (.iconst 0, 1), (.ireturn, 1), (.iload 5, 2), (.ifCond .ne 15, 3), (.aload_n 3, 1), (.iconst 0, 1), (.laload, 1), (.iload 6, 2), (.i2l, 1), (.lcmp, 1), (.ifCond .eq 5, 3), (.iconst 0, 1), (.ireturn, 1), (.goto 1411, 3)] = true := by decide +kernel
  obtain ⟨dx, h⟩ := seg1 h
  refine n_aload_n C.1.1 dx rfl ?_
  refine l_arg C h (n := n) (j := 1) rfl rfl (by decide) (by omega) hL (fun h => ?_)
  refine l_arg C h (n := n) (j := 2) rfl rfl (by decide) (by omega) hL (fun h => ?_)
  refine l_arg C h (n := n) (j := 3) rfl rfl (by decide) (by omega) hL (fun h => ?_)
  refine l_arg C h (n := n) (j := 4) rfl rfl (by decide) (by omega) hL (fun h => ?_)
  refine l_bool C h (fun h => ?_)
  obtain ⟨dx, h⟩ := seg1 h
  refine n_aload_n C.1.1 dx rfl ?_
  obtain ⟨dx, h⟩ := seg1 h
  refine l_stat C [.ref (aC 0), .int (sx (n + 1)), .int (sx (n + 2)), .int (sx (n + 3)), .int (bi (decide (¬ sx (n + 4) = 0))), .ref ao] mh_amount lkH_amount (hi_all (spI (Mm 1)) (fun i => hc_amount (g := gA g aC) (s_R_amount hD hI hW i.2 (qx1 (cv := cvI) hW)))) (by decide) rfl rfl (by decide) dx ⟨by omega, by omega⟩ (fun k Mc1 f1 hq => ?_)
  obtain ⟨dx, h⟩ := seg1 h
  refine n_istore C.1.1 dx (by decide) rfl ?_
  obtain ⟨dx, h⟩ := seg1 h
  refine n_aload_n C.1.1 dx rfl ?_
  refine l_arg C h (n := n) (j := 1) rfl rfl (by decide) (by omega) hL (fun h => ?_)
  refine l_arg C h (n := n) (j := 2) rfl rfl (by decide) (by omega) hL (fun h => ?_)
  refine l_arg C h (n := n) (j := 3) rfl rfl (by decide) (by omega) hL (fun h => ?_)
  refine l_arg C h (n := n) (j := 4) rfl rfl (by decide) (by omega) hL (fun h => ?_)
  refine l_bool C h (fun h => ?_)
  obtain ⟨dx, h⟩ := seg1 h
  refine l_R C [.int (sx (n + 1)), .int (sx (n + 2)), .int (sx (n + 3)), .int (bi (decide (¬ sx (n + 4) = 0)))] meM_amount lkM_amount (ct_M_amount (g := gA g aM) (s_M_amount hI qsM)) (by decide) rfl rfl rfl (by decide) dx ⟨by omega, by omega⟩ (fun v Mm1 hv => ?_)
  obtain ⟨lo, hi, hS9, rfl, hS, e0⟩ := hv
  obtain ⟨M2, f2, ⟨e1, -, -, e2⟩, e3⟩ := hq.2 ⟨(lo, hi), hS9⟩
  obtain ⟨-, hF, hL1, -⟩ := hq.1
  refine tailI C h (by decide) (e0.trans e1.symm) (fun e => ?_) ⟨by omega, by omega⟩ (n_to rfl (by omega) (by omega) (K aC ext Mc1 Mm1 _ rfl (hJ.q hF hL1 hS) (Nat.le_add_right _ _)))
  rw [← e3, e2]
  exact fO_I (e1.symm.trans e)
theorem lkH_wide : Cond.methodLink RL 257 yL_wide ∈ GW := gw 1236 (by decide +kernel) (by decide +kernel)
theorem meM_wide : MeV yX12_wide cX12_wide 7 (some .int) 3 := ⟨⟨gw 116 (by decide +kernel) (by decide +kernel), gw 2017 (by decide +kernel) (by decide +kernel), by decide +kernel, by decide⟩, gw 2015 (by decide +kernel) (by decide +kernel), gw 2016 (by decide +kernel) (by decide +kernel)⟩
theorem lkM_wide : Cond.methodLink RL 260 yX12_wide ∈ GW := gw 2014 (by decide +kernel) (by decide +kernel)
theorem case_wide {X : FX} {g : GT} {cL : ClassId} {A : Nat → Prop} {sk : Nat → Nat} {sb L : Nat} {sx : Nat → Int32} {kc ks : Nat} {Z : State → Prop} {n : Nat} {aM aC : Nat → Nat} {ext : List CD} {Mc Mm : Mem} {ao : Nat} {f : Nat → Int64} (C : CxL X g cL A sk sb L sx) (hL : L ≤ 3072) (hn : n + 5 < L) (hk : kc + 80 ≤ 601024 ∧ ks + 480 ≤ 7293034) (hJ : JI ext Mc Mm) (K : NX X g cL A sb kc ks Z n aM aC ext ao) : AtN X (g.1, g.2.1) (WS g aM aC ext Mc Mm ao cL f) A 7 kc ks Z 2157 (lvB n ao (aM 0) (aC 0) sb) [] := by
  have hD := hJ.1
  have hI := hJ.2.1
  have hW := hJ.2.2.1
  have h : segB code 2157 [(.aload_n 1, 1), (.aload_n 0, 1), (.iload 4, 2), (.iconst 1, 1), (.iadd, 1), (.iaload, 1), (.aload_n 0, 1), (.iload 4, 2), (.iconst 2, 1), (.iadd, 1), (.iaload, 1), (.aload_n 0, 1), (.iload 4, 2), (.iconst 3, 1), (.iadd, 1), (.iaload, 1), (.ifCond .eq 7, 3), (.iconst 1, 1), (.goto 4, 3), (.iconst 0, 1), (.aload_n 3, 1), (.invokestatic 257, 3), (.istore 5, 2), (.aload_n 2, 1), (.aload_n 0, 1), (.iload 4, 2), (.iconst 1, 1), (.iadd, 1), (.iaload, 1), (.aload_n 0, 1), (.iload 4, 2), (.iconst 2, 1), (.iadd, 1), (.iaload, 1), (.aload_n 0, 1), (.iload 4, 2), (.iconst 3, 1), (.iadd, 1), (.iaload, 1), (.ifCond .eq 7, 3), (.iconst 1, 1), (.goto 4, 3), (.iconst 0, 1), (.invokevirtual 260, 3), (.istore 6, 2), (.aload_n 2, 1), (.invokevirtual 165, 3), (.iload 5, 2), (.if_icmp .eq 5, 3), (.iconst 0, 1), (.ireturn, 1), (.iload 5, 2), (.ifCond .ne 15, 3), (.aload_n 3, 1), (.iconst 0, 1), (.laload, 1), (.iload 6, 2), (.i2l, 1), (.lcmp, 1), (.ifCond .eq 5, 3), (.iconst 0, 1), (.ireturn, 1), (.goto 1315, 3)] = true := by decide +kernel
  obtain ⟨dx, h⟩ := seg1 h
  refine n_aload_n C.1.1 dx rfl ?_
  refine l_arg C h (n := n) (j := 1) rfl rfl (by decide) (by omega) hL (fun h => ?_)
  refine l_arg C h (n := n) (j := 2) rfl rfl (by decide) (by omega) hL (fun h => ?_)
  refine l_arg C h (n := n) (j := 3) rfl rfl (by decide) (by omega) hL (fun h => ?_)
  refine l_bool C h (fun h => ?_)
  obtain ⟨dx, h⟩ := seg1 h
  refine n_aload_n C.1.1 dx rfl ?_
  obtain ⟨dx, h⟩ := seg1 h
  refine l_stat C [.ref (aC 0), .int (sx (n + 1)), .int (sx (n + 2)), .int (bi (decide (¬ sx (n + 3) = 0))), .ref ao] mh_wide lkH_wide (hi_all (spI (Mm 1)) (fun i => hc_wide (g := gA g aC) (s_R_wide hD hI hW i.2 (qx1 (cv := cvI) hW)))) (by decide) rfl rfl (by decide) dx ⟨by omega, by omega⟩ (fun k Mc1 f1 hq => ?_)
  obtain ⟨dx, h⟩ := seg1 h
  refine n_istore C.1.1 dx (by decide) rfl ?_
  obtain ⟨dx, h⟩ := seg1 h
  refine n_aload_n C.1.1 dx rfl ?_
  refine l_arg C h (n := n) (j := 1) rfl rfl (by decide) (by omega) hL (fun h => ?_)
  refine l_arg C h (n := n) (j := 2) rfl rfl (by decide) (by omega) hL (fun h => ?_)
  refine l_arg C h (n := n) (j := 3) rfl rfl (by decide) (by omega) hL (fun h => ?_)
  refine l_bool C h (fun h => ?_)
  obtain ⟨dx, h⟩ := seg1 h
  refine l_R C [.int (sx (n + 1)), .int (sx (n + 2)), .int (bi (decide (¬ sx (n + 3) = 0)))] meM_wide lkM_wide (ct_M_wide (g := gA g aM) (s_M_wide hI qsM)) (by decide) rfl rfl rfl (by decide) dx ⟨by omega, by omega⟩ (fun v Mm1 hv => ?_)
  obtain ⟨lo, hi, hS9, rfl, hS, e0⟩ := hv
  obtain ⟨M2, f2, ⟨e1, -, -, e2⟩, e3⟩ := hq.2 ⟨(lo, hi), hS9⟩
  obtain ⟨-, hF, hL1, -⟩ := hq.1
  refine tailI C h (by decide) (e0.trans e1.symm) (fun e => ?_) ⟨by omega, by omega⟩ (n_to rfl (by omega) (by omega) (K aC ext Mc1 Mm1 _ rfl (hJ.q hF hL1 hS) (Nat.le_add_right _ _)))
  rw [← e3, e2]
  exact fO_I (e1.symm.trans e)
theorem lkH_rows : Cond.methodLink RL 261 yL_rows ∈ GW := gw 1251 (by decide +kernel) (by decide +kernel)
theorem meM_rows : MeV yX12_rows cX12_rows 11 (some .int) 4 := ⟨⟨gw 116 (by decide +kernel) (by decide +kernel), gw 2021 (by decide +kernel) (by decide +kernel), by decide +kernel, by decide⟩, gw 2019 (by decide +kernel) (by decide +kernel), gw 2020 (by decide +kernel) (by decide +kernel)⟩
theorem lkM_rows : Cond.methodLink RL 263 yX12_rows ∈ GW := gw 2018 (by decide +kernel) (by decide +kernel)
theorem case_rows {X : FX} {g : GT} {cL : ClassId} {A : Nat → Prop} {sk : Nat → Nat} {sb L : Nat} {sx : Nat → Int32} {kc ks : Nat} {Z : State → Prop} {n : Nat} {aM aC : Nat → Nat} {ext : List CD} {Mc Mm : Mem} {ao : Nat} {f : Nat → Int64} (C : CxL X g cL A sk sb L sx) (hL : L ≤ 3072) (hn : n + 5 < L) (hk : kc + 80 ≤ 601024 ∧ ks + 480 ≤ 7293034) (hJ : JI ext Mc Mm) (K : NX X g cL A sb kc ks Z n aM aC ext ao) : AtN X (g.1, g.2.1) (WS g aM aC ext Mc Mm ao cL f) A 7 kc ks Z 2253 (lvB n ao (aM 0) (aC 0) sb) [] := by
  have hD := hJ.1
  have hI := hJ.2.1
  have hW := hJ.2.2.1
  have h : segB code 2253 [(.aload_n 1, 1), (.aload_n 0, 1), (.iload 4, 2), (.iconst 1, 1), (.iadd, 1), (.iaload, 1), (.aload_n 0, 1), (.iload 4, 2), (.iconst 2, 1), (.iadd, 1), (.iaload, 1), (.aload_n 0, 1), (.iload 4, 2), (.iconst 3, 1), (.iadd, 1), (.iaload, 1), (.aload_n 0, 1), (.iload 4, 2), (.iconst 4, 1), (.iadd, 1), (.iaload, 1), (.ifCond .eq 7, 3), (.iconst 1, 1), (.goto 4, 3), (.iconst 0, 1), (.aload_n 3, 1), (.invokestatic 261, 3), (.istore 5, 2), (.aload_n 2, 1), (.aload_n 0, 1), (.iload 4, 2), (.iconst 1, 1), (.iadd, 1), (.iaload, 1), (.aload_n 0, 1), (.iload 4, 2), (.iconst 2, 1), (.iadd, 1), (.iaload, 1), (.aload_n 0, 1), (.iload 4, 2), (.iconst 3, 1), (.iadd, 1), (.iaload, 1), (.aload_n 0, 1), (.iload 4, 2), (.iconst 4, 1), (.iadd, 1), (.iaload, 1), (.ifCond .eq 7, 3), (.iconst 1, 1), (.goto 4, 3), (.iconst 0, 1), (.invokevirtual 263, 3), (.istore 6, 2), (.aload_n 2, 1), (.invokevirtual 165, 3), (.iload 5, 2), (.if_icmp .eq 5, 3), (.iconst 0, 1), (.ireturn, 1), (.iload 5, 2), (.ifCond .ne 15, 3), (.aload_n 3, 1), (.iconst 0, 1), (.laload, 1), (.iload 6, 2), (.i2l, 1), (.lcmp, 1), (.ifCond .eq 5, 3), (.iconst 0, 1), (.ireturn, 1), (.goto 1207, 3)] = true := by decide +kernel
  obtain ⟨dx, h⟩ := seg1 h
  refine n_aload_n C.1.1 dx rfl ?_
  refine l_arg C h (n := n) (j := 1) rfl rfl (by decide) (by omega) hL (fun h => ?_)
  refine l_arg C h (n := n) (j := 2) rfl rfl (by decide) (by omega) hL (fun h => ?_)
  refine l_arg C h (n := n) (j := 3) rfl rfl (by decide) (by omega) hL (fun h => ?_)
  refine l_arg C h (n := n) (j := 4) rfl rfl (by decide) (by omega) hL (fun h => ?_)
  refine l_bool C h (fun h => ?_)
  obtain ⟨dx, h⟩ := seg1 h
  refine n_aload_n C.1.1 dx rfl ?_
  obtain ⟨dx, h⟩ := seg1 h
  refine l_stat C [.ref (aC 0), .int (sx (n + 1)), .int (sx (n + 2)), .int (sx (n + 3)), .int (bi (decide (¬ sx (n + 4) = 0))), .ref ao] mh_rows lkH_rows (hi_all (spI (Mm 1)) (fun i => hc_rows (g := gA g aC) (s_R_rows hD hI hW i.2 (qx2 (cv := cvI) hW)))) (by decide) rfl rfl (by decide) dx ⟨by omega, by omega⟩ (fun k Mc1 f1 hq => ?_)
  obtain ⟨dx, h⟩ := seg1 h
  refine n_istore C.1.1 dx (by decide) rfl ?_
  obtain ⟨dx, h⟩ := seg1 h
  refine n_aload_n C.1.1 dx rfl ?_
  refine l_arg C h (n := n) (j := 1) rfl rfl (by decide) (by omega) hL (fun h => ?_)
  refine l_arg C h (n := n) (j := 2) rfl rfl (by decide) (by omega) hL (fun h => ?_)
  refine l_arg C h (n := n) (j := 3) rfl rfl (by decide) (by omega) hL (fun h => ?_)
  refine l_arg C h (n := n) (j := 4) rfl rfl (by decide) (by omega) hL (fun h => ?_)
  refine l_bool C h (fun h => ?_)
  obtain ⟨dx, h⟩ := seg1 h
  refine l_R C [.int (sx (n + 1)), .int (sx (n + 2)), .int (sx (n + 3)), .int (bi (decide (¬ sx (n + 4) = 0)))] meM_rows lkM_rows (ct_M_rows (g := gA g aM) (s_M_rows hI qsM)) (by decide) rfl rfl rfl (by decide) dx ⟨by omega, by omega⟩ (fun v Mm1 hv => ?_)
  obtain ⟨lo, hi, hS9, rfl, hS, e0⟩ := hv
  obtain ⟨M2, f2, ⟨e1, -, -, e2⟩, e3⟩ := hq.2 ⟨(lo, hi), hS9⟩
  obtain ⟨-, hF, hL1, -⟩ := hq.1
  refine tailI C h (by decide) (e0.trans e1.symm) (fun e => ?_) ⟨by omega, by omega⟩ (n_to rfl (by omega) (by omega) (K aC ext Mc1 Mm1 _ rfl (hJ.q hF hL1 hS) (Nat.le_add_right _ _)))
  rw [← e3, e2]
  exact fO_I (e1.symm.trans e)
