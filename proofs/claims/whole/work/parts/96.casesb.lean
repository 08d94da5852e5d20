theorem lkH_screw : Cond.methodLink RL 159 yL_screw ∈ GW := gw 821 (by decide +kernel) (by decide +kernel)
theorem meM_screw : MeV yX12_screw cX12_screw 5 none 4 := ⟨⟨gw 116 (by decide +kernel) (by decide +kernel), gw 1756 (by decide +kernel) (by decide +kernel), by decide +kernel, by decide⟩, gw 1754 (by decide +kernel) (by decide +kernel), gw 1755 (by decide +kernel) (by decide +kernel)⟩
theorem lkM_screw : Cond.methodLink RL 164 yX12_screw ∈ GW := gw 1753 (by decide +kernel) (by decide +kernel)
theorem case_screw {X : FX} {g : GT} {cL : ClassId} {A : Nat → Prop} {sk : Nat → Nat} {sb L : Nat} {sx : Nat → Int32} {kc ks : Nat} {Z : State → Prop} {n : Nat} {aM aC : Nat → Nat} {ext : List CD} {Mc Mm : Mem} {ao : Nat} {f : Nat → Int64} (C : CxL X g cL A sk sb L sx) (hL : L ≤ 3072) (hn : n + 5 < L) (hk : kc + 80 ≤ 601024 ∧ ks + 480 ≤ 7293034) (hJ : JI ext Mc Mm) (K : NX X g cL A sb kc ks Z n aM aC ext ao) : AtN X (g.1, g.2.1) (WS g aM aC ext Mc Mm ao cL f) A 7 kc ks Z 346 (lvB n ao (aM 0) (aC 0) sb) [] := by
  have hD := hJ.1
  have hI := hJ.2.1
  have hW := hJ.2.2.1
  have h : segB code 346 [(.aload_n 1, 1), (.aload_n 0, 1), (.iload 4, 2), (.iconst 1, 1), (.iadd, 1), (.iaload, 1), (.aload_n 0, 1), (.iload 4, 2), (.iconst 2, 1), (.iadd, 1), (.iaload, 1), (.aload_n 0, 1), (.iload 4, 2), (.iconst 3, 1), (.iadd, 1), (.iaload, 1), (.aload_n 0, 1), (.iload 4, 2), (.iconst 4, 1), (.iadd, 1), (.iaload, 1), (.invokestatic 159, 3), (.istore 5, 2), (.aload_n 2, 1), (.aload_n 0, 1), (.iload 4, 2), (.iconst 1, 1), (.iadd, 1), (.iaload, 1), (.aload_n 0, 1), (.iload 4, 2), (.iconst 2, 1), (.iadd, 1), (.iaload, 1), (.aload_n 0, 1), (.iload 4, 2), (.iconst 3, 1), (.iadd, 1), (.iaload, 1), (.aload_n 0, 1), (.iload 4, 2), (.iconst 4, 1), (.iadd, 1), (.iaload, 1), (.invokevirtual 164, 3), (.aload_n 2, 1), (.invokevirtual 165, 3), (.iload 5, 2), (.if_icmp .eq 5, 3), (.iconst 0, 1), (.ireturn, 1), (.goto 3150, 3)] = true := by decide +kernel
  obtain ⟨dx, h⟩ := seg1 h
  refine n_aload_n C.1.1 dx rfl ?_
  refine l_arg C h (n := n) (j := 1) rfl rfl (by decide) (by omega) hL (fun h => ?_)
  refine l_arg C h (n := n) (j := 2) rfl rfl (by decide) (by omega) hL (fun h => ?_)
  refine l_arg C h (n := n) (j := 3) rfl rfl (by decide) (by omega) hL (fun h => ?_)
  refine l_arg C h (n := n) (j := 4) rfl rfl (by decide) (by omega) hL (fun h => ?_)
  obtain ⟨dx, h⟩ := seg1 h
  refine l_stat C [.ref (aC 0), .int (sx (n + 1)), .int (sx (n + 2)), .int (sx (n + 3)), .int (sx (n + 4))] mh_screw lkH_screw (hc_screw (g := gA g aC) (ao := ao) (s_R_screw hD qv1)) (by decide) rfl rfl (by decide) dx ⟨by omega, by omega⟩ (fun k Mc1 f1 hq => ?_)
  obtain ⟨dx, h⟩ := seg1 h
  refine n_istore C.1.1 dx (by decide) rfl ?_
  obtain ⟨dx, h⟩ := seg1 h
  refine n_aload_n C.1.1 dx rfl ?_
  refine l_arg C h (n := n) (j := 1) rfl rfl (by decide) (by omega) hL (fun h => ?_)
  refine l_arg C h (n := n) (j := 2) rfl rfl (by decide) (by omega) hL (fun h => ?_)
  refine l_arg C h (n := n) (j := 3) rfl rfl (by decide) (by omega) hL (fun h => ?_)
  refine l_arg C h (n := n) (j := 4) rfl rfl (by decide) (by omega) hL (fun h => ?_)
  obtain ⟨dx, h⟩ := seg1 h
  refine l_RV C [.int (sx (n + 1)), .int (sx (n + 2)), .int (sx (n + 3)), .int (sx (n + 4))] meM_screw lkM_screw (ct_M_screw (g := gA g aM) (s_M_screw qvM)) (by decide) rfl rfl rfl (by decide) dx ⟨by omega, by omega⟩ (fun Mm1 hv => ?_)
  obtain ⟨rfl, hQ, rfl⟩ := hq
  exact tailV C h (by decide) hv.2.2.2.2.2.2 ⟨by omega, by omega⟩ (n_to rfl (by omega) (by omega) (K aC ext Mc1 Mm1 _ rfl (hJ.o hQ (os_Screw hI) hv) (Nat.le_add_right _ _)))
theorem lkH_gauge : Cond.methodLink RL 172 yL_gauge ∈ GW := gw 909 (by decide +kernel) (by decide +kernel)
theorem meM_gauge : MeV yX12_gauge cX12_gauge 6 (some .int) 5 := ⟨⟨gw 116 (by decide +kernel) (by decide +kernel), gw 1782 (by decide +kernel) (by decide +kernel), by decide +kernel, by decide⟩, gw 1780 (by decide +kernel) (by decide +kernel), gw 1781 (by decide +kernel) (by decide +kernel)⟩
theorem lkM_gauge : Cond.methodLink RL 175 yX12_gauge ∈ GW := gw 1779 (by decide +kernel) (by decide +kernel)
theorem case_gauge {X : FX} {g : GT} {cL : ClassId} {A : Nat → Prop} {sk : Nat → Nat} {sb L : Nat} {sx : Nat → Int32} {kc ks : Nat} {Z : State → Prop} {n : Nat} {aM aC : Nat → Nat} {ext : List CD} {Mc Mm : Mem} {ao : Nat} {f : Nat → Int64} (C : CxL X g cL A sk sb L sx) (hL : L ≤ 3072) (hn : n + 5 < L) (hk : kc + 80 ≤ 601024 ∧ ks + 480 ≤ 7293034) (hJ : JI ext Mc Mm) (K : NX X g cL A sb kc ks Z n aM aC ext ao) : AtN X (g.1, g.2.1) (WS g aM aC ext Mc Mm ao cL f) A 7 kc ks Z 502 (lvB n ao (aM 0) (aC 0) sb) [] := by
  have hD := hJ.1
  have hI := hJ.2.1
  have hW := hJ.2.2.1
  have h : segB code 502 [(.aload_n 1, 1), (.aload_n 0, 1), (.iload 4, 2), (.iconst 1, 1), (.iadd, 1), (.iaload, 1), (.aload_n 0, 1), (.iload 4, 2), (.iconst 2, 1), (.iadd, 1), (.iaload, 1), (.ifCond .eq 7, 3), (.iconst 1, 1), (.goto 4, 3), (.iconst 0, 1), (.aload_n 0, 1), (.iload 4, 2), (.iconst 3, 1), (.iadd, 1), (.iaload, 1), (.aload_n 0, 1), (.iload 4, 2), (.iconst 4, 1), (.iadd, 1), (.iaload, 1), (.ifCond .eq 7, 3), (.iconst 1, 1), (.goto 4, 3), (.iconst 0, 1), (.aload_n 0, 1), (.iload 4, 2), (.iconst 5, 1), (.iadd, 1), (.iaload, 1), (.aload_n 3, 1), (.invokestatic 172, 3), (.istore 5, 2), (.aload_n 2, 1), (.aload_n 0, 1), (.iload 4, 2), (.iconst 1, 1), (.iadd, 1), (.iaload, 1), (.aload_n 0, 1), (.iload 4, 2), (.iconst 2, 1), (.iadd, 1), (.iaload, 1), (.ifCond .eq 7, 3), (.iconst 1, 1), (.goto 4, 3), (.iconst 0, 1), (.aload_n 0, 1), (.iload 4, 2), (.iconst 3, 1), (.iadd, 1), (.iaload, 1), (.aload_n 0, 1), (.iload 4, 2), (.iconst 4, 1), (.iadd, 1), (.iaload, 1), (.ifCond .eq 7, 3), (.iconst 1, 1), (.goto 4, 3), (.iconst 0, 1), (.aload_n 0, 1), (.iload 4, 2), (.iconst 5, 1), (.iadd, 1), (.iaload, 1), (.invokevirtual 175, 3), (.istore 6, 2), (.aload_n 2, 1), (.invokevirtual 165, 3), (.iload 5, 2), (.if_icmp .eq 5, 3), (.iconst 0, 1), (.ireturn, 1), (.iload 5, 2), (.ifCond .ne 15, 3), (.aload_n 3, 1), (.iconst 0, 1), (.laload, 1), (.iload 6, 2), (.i2l, 1), (.lcmp, 1), (.ifCond .eq 5, 3), (.iconst 0, 1), (.ireturn, 1), (.goto 2930, 3)] = true := by decide +kernel
  obtain ⟨dx, h⟩ := seg1 h
  refine n_aload_n C.1.1 dx rfl ?_
  refine l_arg C h (n := n) (j := 1) rfl rfl (by decide) (by omega) hL (fun h => ?_)
  refine l_arg C h (n := n) (j := 2) rfl rfl (by decide) (by omega) hL (fun h => ?_)
  refine l_bool C h (fun h => ?_)
  refine l_arg C h (n := n) (j := 3) rfl rfl (by decide) (by omega) hL (fun h => ?_)
  refine l_arg C h (n := n) (j := 4) rfl rfl (by decide) (by omega) hL (fun h => ?_)
  refine l_bool C h (fun h => ?_)
  refine l_arg C h (n := n) (j := 5) rfl rfl (by decide) (by omega) hL (fun h => ?_)
  obtain ⟨dx, h⟩ := seg1 h
  refine n_aload_n C.1.1 dx rfl ?_
  obtain ⟨dx, h⟩ := seg1 h
  refine l_stat C [.ref (aC 0), .int (sx (n + 1)), .int (bi (decide (¬ sx (n + 2) = 0))), .int (sx (n + 3)), .int (bi (decide (¬ sx (n + 4) = 0))), .int (sx (n + 5)), .ref ao] mh_gauge lkH_gauge (hc_gauge (g := gA g aC) (s_R_gauge hD hI hW (qd2 (cv := cvI)))) (by decide) rfl rfl (by decide) dx ⟨by omega, by omega⟩ (fun k Mc1 f1 hq => ?_)
  obtain ⟨dx, h⟩ := seg1 h
  refine n_istore C.1.1 dx (by decide) rfl ?_
  obtain ⟨dx, h⟩ := seg1 h
  refine n_aload_n C.1.1 dx rfl ?_
  refine l_arg C h (n := n) (j := 1) rfl rfl (by decide) (by omega) hL (fun h => ?_)
  refine l_arg C h (n := n) (j := 2) rfl rfl (by decide) (by omega) hL (fun h => ?_)
  refine l_bool C h (fun h => ?_)
  refine l_arg C h (n := n) (j := 3) rfl rfl (by decide) (by omega) hL (fun h => ?_)
  refine l_arg C h (n := n) (j := 4) rfl rfl (by decide) (by omega) hL (fun h => ?_)
  refine l_bool C h (fun h => ?_)
  refine l_arg C h (n := n) (j := 5) rfl rfl (by decide) (by omega) hL (fun h => ?_)
  obtain ⟨dx, h⟩ := seg1 h
  refine l_R C [.int (sx (n + 1)), .int (bi (decide (¬ sx (n + 2) = 0))), .int (sx (n + 3)), .int (bi (decide (¬ sx (n + 4) = 0))), .int (sx (n + 5))] meM_gauge lkM_gauge (ct_M_gauge (g := gA g aM) (s_M_gauge hI qoM)) (by decide) rfl rfl rfl (by decide) dx ⟨by omega, by omega⟩ (fun v Mm1 hv => ?_)
  obtain ⟨rfl, hQ, rfl⟩ := hq
  obtain ⟨rfl, hU⟩ := hv
  exact tailI C h (by decide) hU.2.2.2.2.2.2 fO_I ⟨by omega, by omega⟩ (n_to rfl (by omega) (by omega) (K aC ext Mc1 Mm1 _ rfl (hJ.o hQ (os_Gauge hI) hU) (Nat.le_add_right _ _)))
theorem lkH_error : Cond.methodLink RL 184 yL_error ∈ GW := gw 936 (by decide +kernel) (by decide +kernel)
theorem meM_error : MeV yX12_error cX12_error 2 none 1 := ⟨⟨gw 116 (by decide +kernel) (by decide +kernel), gw 1807 (by decide +kernel) (by decide +kernel), by decide +kernel, by decide⟩, gw 1805 (by decide +kernel) (by decide +kernel), gw 1806 (by decide +kernel) (by decide +kernel)⟩
theorem lkM_error : Cond.methodLink RL 187 yX12_error ∈ GW := gw 1804 (by decide +kernel) (by decide +kernel)
theorem case_error {X : FX} {g : GT} {cL : ClassId} {A : Nat → Prop} {sk : Nat → Nat} {sb L : Nat} {sx : Nat → Int32} {kc ks : Nat} {Z : State → Prop} {n : Nat} {aM aC : Nat → Nat} {ext : List CD} {Mc Mm : Mem} {ao : Nat} {f : Nat → Int64} (C : CxL X g cL A sk sb L sx) (hL : L ≤ 3072) (hn : n + 5 < L) (hk : kc + 80 ≤ 601024 ∧ ks + 480 ≤ 7293034) (hJ : JI ext Mc Mm) (K : NX X g cL A sb kc ks Z n aM aC ext ao) : AtN X (g.1, g.2.1) (WS g aM aC ext Mc Mm ao cL f) A 7 kc ks Z 676 (lvB n ao (aM 0) (aC 0) sb) [] := by
  have hD := hJ.1
  have hI := hJ.2.1
  have hW := hJ.2.2.1
  have h : segB code 676 [(.aload_n 1, 1), (.aload_n 0, 1), (.iload 4, 2), (.iconst 1, 1), (.iadd, 1), (.iaload, 1), (.invokestatic 184, 3), (.istore 5, 2), (.aload_n 2, 1), (.aload_n 0, 1), (.iload 4, 2), (.iconst 1, 1), (.iadd, 1), (.iaload, 1), (.invokevirtual 187, 3), (.aload_n 2, 1), (.invokevirtual 165, 3), (.iload 5, 2), (.if_icmp .eq 5, 3), (.iconst 0, 1), (.ireturn, 1), (.goto 2856, 3)] = true := by decide +kernel
  obtain ⟨dx, h⟩ := seg1 h
  refine n_aload_n C.1.1 dx rfl ?_
  refine l_arg C h (n := n) (j := 1) rfl rfl (by decide) (by omega) hL (fun h => ?_)
  obtain ⟨dx, h⟩ := seg1 h
  refine l_stat C [.ref (aC 0), .int (sx (n + 1))] mh_error lkH_error (hc_error (g := gA g aC) (ao := ao) (s_R_error hD qv1)) (by decide) rfl rfl (by decide) dx ⟨by omega, by omega⟩ (fun k Mc1 f1 hq => ?_)
  obtain ⟨dx, h⟩ := seg1 h
  refine n_istore C.1.1 dx (by decide) rfl ?_
  obtain ⟨dx, h⟩ := seg1 h
  refine n_aload_n C.1.1 dx rfl ?_
  refine l_arg C h (n := n) (j := 1) rfl rfl (by decide) (by omega) hL (fun h => ?_)
  obtain ⟨dx, h⟩ := seg1 h
  refine l_RV C [.int (sx (n + 1))] meM_error lkM_error (ct_M_error (g := gA g aM) (s_M_error qvM)) (by decide) rfl rfl rfl (by decide) dx ⟨by omega, by omega⟩ (fun Mm1 hv => ?_)
  obtain ⟨rfl, hQ, rfl⟩ := hq
  exact tailV C h (by decide) hv.2.2.2.2.2.2 ⟨by omega, by omega⟩ (n_to rfl (by omega) (by omega) (K aC ext Mc1 Mm1 _ rfl (hJ.o hQ (os_Error hI) hv) (Nat.le_add_right _ _)))
theorem lkH_known : Cond.methodLink RL 188 yL_known ∈ GW := gw 943 (by decide +kernel) (by decide +kernel)
theorem meM_known : MeV yX12_known cX12_known 5 (some .int) 4 := ⟨⟨gw 116 (by decide +kernel) (by decide +kernel), gw 1811 (by decide +kernel) (by decide +kernel), by decide +kernel, by decide⟩, gw 1809 (by decide +kernel) (by decide +kernel), gw 1810 (by decide +kernel) (by decide +kernel)⟩
theorem lkM_known : Cond.methodLink RL 191 yX12_known ∈ GW := gw 1808 (by decide +kernel) (by decide +kernel)
theorem case_known {X : FX} {g : GT} {cL : ClassId} {A : Nat → Prop} {sk : Nat → Nat} {sb L : Nat} {sx : Nat → Int32} {kc ks : Nat} {Z : State → Prop} {n : Nat} {aM aC : Nat → Nat} {ext : List CD} {Mc Mm : Mem} {ao : Nat} {f : Nat → Int64} (C : CxL X g cL A sk sb L sx) (hL : L ≤ 3072) (hn : n + 5 < L) (hk : kc + 80 ≤ 601024 ∧ ks + 480 ≤ 7293034) (hJ : JI ext Mc Mm) (K : NX X g cL A sb kc ks Z n aM aC ext ao) : AtN X (g.1, g.2.1) (WS g aM aC ext Mc Mm ao cL f) A 7 kc ks Z 712 (lvB n ao (aM 0) (aC 0) sb) [] := by
  have hD := hJ.1
  have hI := hJ.2.1
  have hW := hJ.2.2.1
  have h : segB code 712 [(.aload_n 1, 1), (.aload_n 0, 1), (.iload 4, 2), (.iconst 1, 1), (.iadd, 1), (.iaload, 1), (.aload_n 0, 1), (.iload 4, 2), (.iconst 2, 1), (.iadd, 1), (.iaload, 1), (.ifCond .eq 7, 3), (.iconst 1, 1), (.goto 4, 3), (.iconst 0, 1), (.aload_n 0, 1), (.iload 4, 2), (.iconst 3, 1), (.iadd, 1), (.iaload, 1), (.aload_n 0, 1), (.iload 4, 2), (.iconst 4, 1), (.iadd, 1), (.iaload, 1), (.ifCond .eq 7, 3), (.iconst 1, 1), (.goto 4, 3), (.iconst 0, 1), (.aload_n 3, 1), (.invokestatic 188, 3), (.istore 5, 2), (.aload_n 2, 1), (.aload_n 0, 1), (.iload 4, 2), (.iconst 1, 1), (.iadd, 1), (.iaload, 1), (.aload_n 0, 1), (.iload 4, 2), (.iconst 2, 1), (.iadd, 1), (.iaload, 1), (.ifCond .eq 7, 3), (.iconst 1, 1), (.goto 4, 3), (.iconst 0, 1), (.aload_n 0, 1), (.iload 4, 2), (.iconst 3, 1), (.iadd, 1), (.iaload, 1), (.aload_n 0, 1), (.iload 4, 2), (.iconst 4, 1), (.iadd, 1), (.iaload, 1), (.ifCond .eq 7, 3), (.iconst 1, 1), (.goto 4, 3), (.iconst 0, 1), (.invokevirtual 191, 3), (.istore 6, 2), (.aload_n 2, 1), (.invokevirtual 165, 3), (.iload 5, 2), (.if_icmp .eq 5, 3), (.iconst 0, 1), (.ireturn, 1), (.iload 5, 2), (.ifCond .ne 15, 3), (.aload_n 3, 1), (.iconst 0, 1), (.laload, 1), (.iload 6, 2), (.i2l, 1), (.lcmp, 1), (.ifCond .eq 5, 3), (.iconst 0, 1), (.ireturn, 1), (.goto 2732, 3)] = true := by decide +kernel
  obtain ⟨dx, h⟩ := seg1 h
  refine n_aload_n C.1.1 dx rfl ?_
  refine l_arg C h (n := n) (j := 1) rfl rfl (by decide) (by omega) hL (fun h => ?_)
  refine l_arg C h (n := n) (j := 2) rfl rfl (by decide) (by omega) hL (fun h => ?_)
  refine l_bool C h (fun h => ?_)
  refine l_arg C h (n := n) (j := 3) rfl rfl (by decide) (by omega) hL (fun h => ?_)
  refine l_arg C h (n := n) (j := 4) rfl rfl (by decide) (by omega) hL (fun h => ?_)
  refine l_bool C h (fun h => ?_)
  obtain ⟨dx, h⟩ := seg1 h
  refine n_aload_n C.1.1 dx rfl ?_
  obtain ⟨dx, h⟩ := seg1 h
  refine l_stat C [.ref (aC 0), .int (sx (n + 1)), .int (bi (decide (¬ sx (n + 2) = 0))), .int (sx (n + 3)), .int (bi (decide (¬ sx (n + 4) = 0))), .ref ao] mh_known lkH_known (hc_known (g := gA g aC) (s_R_known hD hI (qd2 (cv := cvI)))) (by decide) rfl rfl (by decide) dx ⟨by omega, by omega⟩ (fun k Mc1 f1 hq => ?_)
  obtain ⟨dx, h⟩ := seg1 h
  refine n_istore C.1.1 dx (by decide) rfl ?_
  obtain ⟨dx, h⟩ := seg1 h
  refine n_aload_n C.1.1 dx rfl ?_
  refine l_arg C h (n := n) (j := 1) rfl rfl (by decide) (by omega) hL (fun h => ?_)
  refine l_arg C h (n := n) (j := 2) rfl rfl (by decide) (by omega) hL (fun h => ?_)
  refine l_bool C h (fun h => ?_)
  refine l_arg C h (n := n) (j := 3) rfl rfl (by decide) (by omega) hL (fun h => ?_)
  refine l_arg C h (n := n) (j := 4) rfl rfl (by decide) (by omega) hL (fun h => ?_)
  refine l_bool C h (fun h => ?_)
  obtain ⟨dx, h⟩ := seg1 h
  refine l_R C [.int (sx (n + 1)), .int (bi (decide (¬ sx (n + 2) = 0))), .int (sx (n + 3)), .int (bi (decide (¬ sx (n + 4) = 0)))] meM_known lkM_known (ct_M_known (g := gA g aM) (s_M_known hI qoM)) (by decide) rfl rfl rfl (by decide) dx ⟨by omega, by omega⟩ (fun v Mm1 hv => ?_)
  obtain ⟨rfl, hQ, rfl⟩ := hq
  obtain ⟨rfl, hU⟩ := hv
  exact tailI C h (by decide) hU.2.2.2.2.2.2 fO_I ⟨by omega, by omega⟩ (n_to rfl (by omega) (by omega) (K aC ext Mc1 Mm1 _ rfl (hJ.o hQ (os_Known hI) hU) (Nat.le_add_right _ _)))
theorem lkH_element : Cond.methodLink RL 208 yL_element ∈ GW := gw 1009 (by decide +kernel) (by decide +kernel)
theorem meM_element : MeV yX12_element cX12_element 3 (some .int) 1 := ⟨⟨gw 116 (by decide +kernel) (by decide +kernel), gw 1850 (by decide +kernel) (by decide +kernel), by decide +kernel, by decide⟩, gw 1848 (by decide +kernel) (by decide +kernel), gw 1849 (by decide +kernel) (by decide +kernel)⟩
theorem lkM_element : Cond.methodLink RL 211 yX12_element ∈ GW := gw 1847 (by decide +kernel) (by decide +kernel)
theorem case_element {X : FX} {g : GT} {cL : ClassId} {A : Nat → Prop} {sk : Nat → Nat} {sb L : Nat} {sx : Nat → Int32} {kc ks : Nat} {Z : State → Prop} {n : Nat} {aM aC : Nat → Nat} {ext : List CD} {Mc Mm : Mem} {ao : Nat} {f : Nat → Int64} (C : CxL X g cL A sk sb L sx) (hL : L ≤ 3072) (hn : n + 5 < L) (hk : kc + 80 ≤ 601024 ∧ ks + 480 ≤ 7293034) (hJ : JI ext Mc Mm) (K : NX X g cL A sb kc ks Z n aM aC ext ao) : AtN X (g.1, g.2.1) (WS g aM aC ext Mc Mm ao cL f) A 7 kc ks Z 1030 (lvB n ao (aM 0) (aC 0) sb) [] := by
  have hD := hJ.1
  have hI := hJ.2.1
  have hW := hJ.2.2.1
  have h : segB code 1030 [(.aload_n 1, 1), (.aload_n 0, 1), (.iload 4, 2), (.iconst 1, 1), (.iadd, 1), (.iaload, 1), (.ifCond .eq 7, 3), (.iconst 1, 1), (.goto 4, 3), (.iconst 0, 1), (.aload_n 3, 1), (.invokestatic 208, 3), (.istore 5, 2), (.aload_n 2, 1), (.aload_n 0, 1), (.iload 4, 2), (.iconst 1, 1), (.iadd, 1), (.iaload, 1), (.ifCond .eq 7, 3), (.iconst 1, 1), (.goto 4, 3), (.iconst 0, 1), (.invokevirtual 211, 3), (.istore 6, 2), (.aload_n 2, 1), (.invokevirtual 165, 3), (.iload 5, 2), (.if_icmp .eq 5, 3), (.iconst 0, 1), (.ireturn, 1), (.iload 5, 2), (.ifCond .ne 15, 3), (.aload_n 3, 1), (.iconst 0, 1), (.laload, 1), (.iload 6, 2), (.i2l, 1), (.lcmp, 1), (.ifCond .eq 5, 3), (.iconst 0, 1), (.ireturn, 1), (.goto 2466, 3)] = true := by decide +kernel
  obtain ⟨dx, h⟩ := seg1 h
  refine n_aload_n C.1.1 dx rfl ?_
  refine l_arg C h (n := n) (j := 1) rfl rfl (by decide) (by omega) hL (fun h => ?_)
  refine l_bool C h (fun h => ?_)
  obtain ⟨dx, h⟩ := seg1 h
  refine n_aload_n C.1.1 dx rfl ?_
  obtain ⟨dx, h⟩ := seg1 h
  refine l_stat C [.ref (aC 0), .int (bi (decide (¬ sx (n + 1) = 0))), .ref ao] mh_element lkH_element (hc_element (g := gA g aC) (s_R_element hD hI hW (qd1 (cv := cvI)))) (by decide) rfl rfl (by decide) dx ⟨by omega, by omega⟩ (fun k Mc1 f1 hq => ?_)
  obtain ⟨dx, h⟩ := seg1 h
  refine n_istore C.1.1 dx (by decide) rfl ?_
  obtain ⟨dx, h⟩ := seg1 h
  refine n_aload_n C.1.1 dx rfl ?_
  refine l_arg C h (n := n) (j := 1) rfl rfl (by decide) (by omega) hL (fun h => ?_)
  refine l_bool C h (fun h => ?_)
  obtain ⟨dx, h⟩ := seg1 h
  refine l_R C [.int (bi (decide (¬ sx (n + 1) = 0)))] meM_element lkM_element (ct_M_element (g := gA g aM) (s_M_element hI qoM)) (by decide) rfl rfl rfl (by decide) dx ⟨by omega, by omega⟩ (fun v Mm1 hv => ?_)
  obtain ⟨rfl, hQ, rfl⟩ := hq
  obtain ⟨rfl, hU⟩ := hv
  exact tailI C h (by decide) hU.2.2.2.2.2.2 fO_I ⟨by omega, by omega⟩ (n_to rfl (by omega) (by omega) (K aC ext Mc1 Mm1 _ rfl (hJ.o hQ (os_Element hI) hU) (Nat.le_add_right _ _)))
theorem lkH_line : Cond.methodLink RL 212 yL_line ∈ GW := gw 1016 (by decide +kernel) (by decide +kernel)
theorem meM_line : MeV yX12_line cX12_line 6 (some .int) 3 := ⟨⟨gw 116 (by decide +kernel) (by decide +kernel), gw 1854 (by decide +kernel) (by decide +kernel), by decide +kernel, by decide⟩, gw 1852 (by decide +kernel) (by decide +kernel), gw 1853 (by decide +kernel) (by decide +kernel)⟩
theorem lkM_line : Cond.methodLink RL 215 yX12_line ∈ GW := gw 1851 (by decide +kernel) (by decide +kernel)
theorem case_line {X : FX} {g : GT} {cL : ClassId} {A : Nat → Prop} {sk : Nat → Nat} {sb L : Nat} {sx : Nat → Int32} {kc ks : Nat} {Z : State → Prop} {n : Nat} {aM aC : Nat → Nat} {ext : List CD} {Mc Mm : Mem} {ao : Nat} {f : Nat → Int64} (C : CxL X g cL A sk sb L sx) (hL : L ≤ 3072) (hn : n + 5 < L) (hk : kc + 80 ≤ 601024 ∧ ks + 480 ≤ 7293034) (hJ : JI ext Mc Mm) (K : NX X g cL A sb kc ks Z n aM aC ext ao) : AtN X (g.1, g.2.1) (WS g aM aC ext Mc Mm ao cL f) A 7 kc ks Z 1102 (lvB n ao (aM 0) (aC 0) sb) [] := by
  have hD := hJ.1
  have hI := hJ.2.1
  have hW := hJ.2.2.1
  have h : segB code 1102 [(.aload_n 1, 1), (.aload_n 0, 1), (.iload 4, 2), (.iconst 1, 1), (.iadd, 1), (.iaload, 1), (.aload_n 0, 1), (.iload 4, 2), (.iconst 2, 1), (.iadd, 1), (.iaload, 1), (.aload_n 0, 1), (.iload 4, 2), (.iconst 3, 1), (.iadd, 1), (.iaload, 1), (.aload_n 3, 1), (.invokestatic 212, 3), (.istore 5, 2), (.aload_n 2, 1), (.aload_n 0, 1), (.iload 4, 2), (.iconst 1, 1), (.iadd, 1), (.iaload, 1), (.aload_n 0, 1), (.iload 4, 2), (.iconst 2, 1), (.iadd, 1), (.iaload, 1), (.aload_n 0, 1), (.iload 4, 2), (.iconst 3, 1), (.iadd, 1), (.iaload, 1), (.invokevirtual 215, 3), (.istore 6, 2), (.aload_n 2, 1), (.invokevirtual 165, 3), (.iload 5, 2), (.if_icmp .eq 5, 3), (.iconst 0, 1), (.ireturn, 1), (.iload 5, 2), (.ifCond .ne 15, 3), (.aload_n 3, 1), (.iconst 0, 1), (.laload, 1), (.iload 6, 2), (.i2l, 1), (.lcmp, 1), (.ifCond .eq 5, 3), (.iconst 0, 1), (.ireturn, 1), (.goto 2386, 3)] = true := by decide +kernel
  obtain ⟨dx, h⟩ := seg1 h
  refine n_aload_n C.1.1 dx rfl ?_
  refine l_arg C h (n := n) (j := 1) rfl rfl (by decide) (by omega) hL (fun h => ?_)
  refine l_arg C h (n := n) (j := 2) rfl rfl (by decide) (by omega) hL (fun h => ?_)
  refine l_arg C h (n := n) (j := 3) rfl rfl (by decide) (by omega) hL (fun h => ?_)
  obtain ⟨dx, h⟩ := seg1 h
  refine n_aload_n C.1.1 dx rfl ?_
  obtain ⟨dx, h⟩ := seg1 h
  refine l_stat C [.ref (aC 0), .int (sx (n + 1)), .int (sx (n + 2)), .int (sx (n + 3)), .ref ao] mh_line lkH_line (hc_line (g := gA g aC) (s_R_line hD hI hW (qd3 (cv := cvI)))) (by decide) rfl rfl (by decide) dx ⟨by omega, by omega⟩ (fun k Mc1 f1 hq => ?_)
  obtain ⟨dx, h⟩ := seg1 h
  refine n_istore C.1.1 dx (by decide) rfl ?_
  obtain ⟨dx, h⟩ := seg1 h
  refine n_aload_n C.1.1 dx rfl ?_
  refine l_arg C h (n := n) (j := 1) rfl rfl (by decide) (by omega) hL (fun h => ?_)
  refine l_arg C h (n := n) (j := 2) rfl rfl (by decide) (by omega) hL (fun h => ?_)
  refine l_arg C h (n := n) (j := 3) rfl rfl (by decide) (by omega) hL (fun h => ?_)
  obtain ⟨dx, h⟩ := seg1 h
  refine l_R C [.int (sx (n + 1)), .int (sx (n + 2)), .int (sx (n + 3))] meM_line lkM_line (ct_M_line (g := gA g aM) (s_M_line hI qoM)) (by decide) rfl rfl rfl (by decide) dx ⟨by omega, by omega⟩ (fun v Mm1 hv => ?_)
  obtain ⟨rfl, hQ, rfl⟩ := hq
  obtain ⟨rfl, hU⟩ := hv
  exact tailI C h (by decide) hU.2.2.2.2.2.2 fO_I ⟨by omega, by omega⟩ (n_to rfl (by omega) (by omega) (K aC ext Mc1 Mm1 _ rfl (hJ.o hQ (os_Line hI) hU) (Nat.le_add_right _ _)))
theorem lkH_plate : Cond.methodLink RL 216 yL_plate ∈ GW := gw 1043 (by decide +kernel) (by decide +kernel)
theorem meM_plate : MeV yX12_plate cX12_plate 6 (some .int) 5 := ⟨⟨gw 116 (by decide +kernel) (by decide +kernel), gw 1866 (by decide +kernel) (by decide +kernel), by decide +kernel, by decide⟩, gw 1864 (by decide +kernel) (by decide +kernel), gw 1865 (by decide +kernel) (by decide +kernel)⟩
theorem lkM_plate : Cond.methodLink RL 219 yX12_plate ∈ GW := gw 1863 (by decide +kernel) (by decide +kernel)
theorem case_plate {X : FX} {g : GT} {cL : ClassId} {A : Nat → Prop} {sk : Nat → Nat} {sb L : Nat} {sx : Nat → Int32} {kc ks : Nat} {Z : State → Prop} {n : Nat} {aM aC : Nat → Nat} {ext : List CD} {Mc Mm : Mem} {ao : Nat} {f : Nat → Int64} (C : CxL X g cL A sk sb L sx) (hL : L ≤ 3072) (hn : n + 5 < L) (hk : kc + 80 ≤ 601024 ∧ ks + 480 ≤ 7293034) (hJ : JI ext Mc Mm) (K : NX X g cL A sb kc ks Z n aM aC ext ao) : AtN X (g.1, g.2.1) (WS g aM aC ext Mc Mm ao cL f) A 7 kc ks Z 1182 (lvB n ao (aM 0) (aC 0) sb) [] := by
  have hD := hJ.1
  have hI := hJ.2.1
  have hW := hJ.2.2.1
  have h : segB code 1182 [(.aload_n 1, 1), (.aload_n 0, 1), (.iload 4, 2), (.iconst 1, 1), (.iadd, 1), (.iaload, 1), (.aload_n 0, 1), (.iload 4, 2), (.iconst 2, 1), (.iadd, 1), (.iaload, 1), (.aload_n 0, 1), (.iload 4, 2), (.iconst 3, 1), (.iadd, 1), (.iaload, 1), (.aload_n 0, 1), (.iload 4, 2), (.iconst 4, 1), (.iadd, 1), (.iaload, 1), (.aload_n 0, 1), (.iload 4, 2), (.iconst 5, 1), (.iadd, 1), (.iaload, 1), (.aload_n 3, 1), (.invokestatic 216, 3), (.istore 5, 2), (.aload_n 2, 1), (.aload_n 0, 1), (.iload 4, 2), (.iconst 1, 1), (.iadd, 1), (.iaload, 1), (.aload_n 0, 1), (.iload 4, 2), (.iconst 2, 1), (.iadd, 1), (.iaload, 1), (.aload_n 0, 1), (.iload 4, 2), (.iconst 3, 1), (.iadd, 1), (.iaload, 1), (.aload_n 0, 1), (.iload 4, 2), (.iconst 4, 1), (.iadd, 1), (.iaload, 1), (.aload_n 0, 1), (.iload 4, 2), (.iconst 5, 1), (.iadd, 1), (.iaload, 1), (.invokevirtual 219, 3), (.istore 6, 2), (.aload_n 2, 1), (.invokevirtual 165, 3), (.iload 5, 2), (.if_icmp .eq 5, 3), (.iconst 0, 1), (.ireturn, 1), (.iload 5, 2), (.ifCond .ne 15, 3), (.aload_n 3, 1), (.iconst 0, 1), (.laload, 1), (.iload 6, 2), (.i2l, 1), (.lcmp, 1), (.ifCond .eq 5, 3), (.iconst 0, 1), (.ireturn, 1), (.goto 2282, 3)] = true := by decide +kernel
  obtain ⟨dx, h⟩ := seg1 h
  refine n_aload_n C.1.1 dx rfl ?_
  refine l_arg C h (n := n) (j := 1) rfl rfl (by decide) (by omega) hL (fun h => ?_)
  refine l_arg C h (n := n) (j := 2) rfl rfl (by decide) (by omega) hL (fun h => ?_)
  refine l_arg C h (n := n) (j := 3) rfl rfl (by decide) (by omega) hL (fun h => ?_)
  refine l_arg C h (n := n) (j := 4) rfl rfl (by decide) (by omega) hL (fun h => ?_)
  refine l_arg C h (n := n) (j := 5) rfl rfl (by decide) (by omega) hL (fun h => ?_)
  obtain ⟨dx, h⟩ := seg1 h
  refine n_aload_n C.1.1 dx rfl ?_
  obtain ⟨dx, h⟩ := seg1 h
  refine l_stat C [.ref (aC 0), .int (sx (n + 1)), .int (sx (n + 2)), .int (sx (n + 3)), .int (sx (n + 4)), .int (sx (n + 5)), .ref ao] mh_plate lkH_plate (hc_plate (g := gA g aC) (s_R_plate hD hI hW (qd2 (cv := cvI)))) (by decide) rfl rfl (by decide) dx ⟨by omega, by omega⟩ (fun k Mc1 f1 hq => ?_)
  obtain ⟨dx, h⟩ := seg1 h
  refine n_istore C.1.1 dx (by decide) rfl ?_
  obtain ⟨dx, h⟩ := seg1 h
  refine n_aload_n C.1.1 dx rfl ?_
  refine l_arg C h (n := n) (j := 1) rfl rfl (by decide) (by omega) hL (fun h => ?_)
  refine l_arg C h (n := n) (j := 2) rfl rfl (by decide) (by omega) hL (fun h => ?_)
  refine l_arg C h (n := n) (j := 3) rfl rfl (by decide) (by omega) hL (fun h => ?_)
  refine l_arg C h (n := n) (j := 4) rfl rfl (by decide) (by omega) hL (fun h => ?_)
  refine l_arg C h (n := n) (j := 5) rfl rfl (by decide) (by omega) hL (fun h => ?_)
  obtain ⟨dx, h⟩ := seg1 h
  refine l_R C [.int (sx (n + 1)), .int (sx (n + 2)), .int (sx (n + 3)), .int (sx (n + 4)), .int (sx (n + 5))] meM_plate lkM_plate (ct_M_plate (g := gA g aM) (s_M_plate hI qoM)) (by decide) rfl rfl rfl (by decide) dx ⟨by omega, by omega⟩ (fun v Mm1 hv => ?_)
  obtain ⟨rfl, hQ, rfl⟩ := hq
  obtain ⟨rfl, hU⟩ := hv
  exact tailI C h (by decide) hU.2.2.2.2.2.2 fO_I ⟨by omega, by omega⟩ (n_to rfl (by omega) (by omega) (K aC ext Mc1 Mm1 _ rfl (hJ.o hQ (os_Plate hI) hU) (Nat.le_add_right _ _)))
theorem lkH_reading : Cond.methodLink RL 220 yL_reading ∈ GW := gw 1050 (by decide +kernel) (by decide +kernel)
theorem meM_reading : MeV yX12_reading cX12_reading 6 (some .int) 5 := ⟨⟨gw 116 (by decide +kernel) (by decide +kernel), gw 1870 (by decide +kernel) (by decide +kernel), by decide +kernel, by decide⟩, gw 1868 (by decide +kernel) (by decide +kernel), gw 1869 (by decide +kernel) (by decide +kernel)⟩
theorem lkM_reading : Cond.methodLink RL 223 yX12_reading ∈ GW := gw 1867 (by decide +kernel) (by decide +kernel)
theorem case_reading {X : FX} {g : GT} {cL : ClassId} {A : Nat → Prop} {sk : Nat → Nat} {sb L : Nat} {sx : Nat → Int32} {kc ks : Nat} {Z : State → Prop} {n : Nat} {aM aC : Nat → Nat} {ext : List CD} {Mc Mm : Mem} {ao : Nat} {f : Nat → Int64} (C : CxL X g cL A sk sb L sx) (hL : L ≤ 3072) (hn : n + 5 < L) (hk : kc + 80 ≤ 601024 ∧ ks + 480 ≤ 7293034) (hJ : JI ext Mc Mm) (K : NX X g cL A sb kc ks Z n aM aC ext ao) : AtN X (g.1, g.2.1) (WS g aM aC ext Mc Mm ao cL f) A 7 kc ks Z 1286 (lvB n ao (aM 0) (aC 0) sb) [] := by
  have hD := hJ.1
  have hI := hJ.2.1
  have hW := hJ.2.2.1
  have h : segB code 1286 [(.aload_n 1, 1), (.aload_n 0, 1), (.iload 4, 2), (.iconst 1, 1), (.iadd, 1), (.iaload, 1), (.aload_n 0, 1), (.iload 4, 2), (.iconst 2, 1), (.iadd, 1), (.iaload, 1), (.aload_n 0, 1), (.iload 4, 2), (.iconst 3, 1), (.iadd, 1), (.iaload, 1), (.ifCond .eq 7, 3), (.iconst 1, 1), (.goto 4, 3), (.iconst 0, 1), (.aload_n 0, 1), (.iload 4, 2), (.iconst 4, 1), (.iadd, 1), (.iaload, 1), (.aload_n 0, 1), (.iload 4, 2), (.iconst 5, 1), (.iadd, 1), (.iaload, 1), (.aload_n 3, 1), (.invokestatic 220, 3), (.istore 5, 2), (.aload_n 2, 1), (.aload_n 0, 1), (.iload 4, 2), (.iconst 1, 1), (.iadd, 1), (.iaload, 1), (.aload_n 0, 1), (.iload 4, 2), (.iconst 2, 1), (.iadd, 1), (.iaload, 1), (.aload_n 0, 1), (.iload 4, 2), (.iconst 3, 1), (.iadd, 1), (.iaload, 1), (.ifCond .eq 7, 3), (.iconst 1, 1), (.goto 4, 3), (.iconst 0, 1), (.aload_n 0, 1), (.iload 4, 2), (.iconst 4, 1), (.iadd, 1), (.iaload, 1), (.aload_n 0, 1), (.iload 4, 2), (.iconst 5, 1), (.iadd, 1), (.iaload, 1), (.invokevirtual 223, 3), (.istore 6, 2), (.aload_n 2, 1), (.invokevirtual 165, 3), (.iload 5, 2), (.if_icmp .eq 5, 3), (.iconst 0, 1), (.ireturn, 1), (.iload 5, 2), (.ifCond .ne 15, 3), (.aload_n 3, 1), (.iconst 0, 1), (.laload, 1), (.iload 6, 2), (.i2l, 1), (.lcmp, 1), (.ifCond .eq 5, 3), (.iconst 0, 1), (.ireturn, 1), (.goto 2162, 3)] = true := by decide +kernel
  obtain ⟨dx, h⟩ := seg1 h
  refine n_aload_n C.1.1 dx rfl ?_
  refine l_arg C h (n := n) (j := 1) rfl rfl (by decide) (by omega) hL (fun h => ?_)
  refine l_arg C h (n := n) (j := 2) rfl rfl (by decide) (by omega) hL (fun h => ?_)
  refine l_arg C h (n := n) (j := 3) rfl rfl (by decide) (by omega) hL (fun h => ?_)
  refine l_bool C h (fun h => ?_)
  refine l_arg C h (n := n) (j := 4) rfl rfl (by decide) (by omega) hL (fun h => ?_)
  refine l_arg C h (n := n) (j := 5) rfl rfl (by decide) (by omega) hL (fun h => ?_)
  obtain ⟨dx, h⟩ := seg1 h
  refine n_aload_n C.1.1 dx rfl ?_
  obtain ⟨dx, h⟩ := seg1 h
  refine l_stat C [.ref (aC 0), .int (sx (n + 1)), .int (sx (n + 2)), .int (bi (decide (¬ sx (n + 3) = 0))), .int (sx (n + 4)), .int (sx (n + 5)), .ref ao] mh_reading lkH_reading (hc_reading (g := gA g aC) (s_R_reading hD hI hW (qd3 (cv := cvI)))) (by decide) rfl rfl (by decide) dx ⟨by omega, by omega⟩ (fun k Mc1 f1 hq => ?_)
  obtain ⟨dx, h⟩ := seg1 h
  refine n_istore C.1.1 dx (by decide) rfl ?_
  obtain ⟨dx, h⟩ := seg1 h
  refine n_aload_n C.1.1 dx rfl ?_
  refine l_arg C h (n := n) (j := 1) rfl rfl (by decide) (by omega) hL (fun h => ?_)
  refine l_arg C h (n := n) (j := 2) rfl rfl (by decide) (by omega) hL (fun h => ?_)
  refine l_arg C h (n := n) (j := 3) rfl rfl (by decide) (by omega) hL (fun h => ?_)
  refine l_bool C h (fun h => ?_)
  refine l_arg C h (n := n) (j := 4) rfl rfl (by decide) (by omega) hL (fun h => ?_)
  refine l_arg C h (n := n) (j := 5) rfl rfl (by decide) (by omega) hL (fun h => ?_)
  obtain ⟨dx, h⟩ := seg1 h
  refine l_R C [.int (sx (n + 1)), .int (sx (n + 2)), .int (bi (decide (¬ sx (n + 3) = 0))), .int (sx (n + 4)), .int (sx (n + 5))] meM_reading lkM_reading (ct_M_reading (g := gA g aM) (s_M_reading hI qoM)) (by decide) rfl rfl rfl (by decide) dx ⟨by omega, by omega⟩ (fun v Mm1 hv => ?_)
  obtain ⟨rfl, hQ, rfl⟩ := hq
  obtain ⟨rfl, hU⟩ := hv
  exact tailI C h (by decide) hU.2.2.2.2.2.2 fO_I ⟨by omega, by omega⟩ (n_to rfl (by omega) (by omega) (K aC ext Mc1 Mm1 _ rfl (hJ.o hQ (os_Reading hI) hU) (Nat.le_add_right _ _)))
theorem lkH_maker : Cond.methodLink RL 280 yL_maker ∈ GW := gw 1365 (by decide +kernel) (by decide +kernel)
theorem meM_maker : MeV yX12_maker cX12_maker 3 (some .int) 0 := ⟨⟨gw 116 (by decide +kernel) (by decide +kernel), gw 2065 (by decide +kernel) (by decide +kernel), by decide +kernel, by decide⟩, gw 2063 (by decide +kernel) (by decide +kernel), gw 2064 (by decide +kernel) (by decide +kernel)⟩
theorem lkM_maker : Cond.methodLink RL 283 yX12_maker ∈ GW := gw 2062 (by decide +kernel) (by decide +kernel)
theorem case_maker {X : FX} {g : GT} {cL : ClassId} {A : Nat → Prop} {sk : Nat → Nat} {sb L : Nat} {sx : Nat → Int32} {kc ks : Nat} {Z : State → Prop} {n : Nat} {aM aC : Nat → Nat} {ext : List CD} {Mc Mm : Mem} {ao : Nat} {f : Nat → Int64} (C : CxL X g cL A sk sb L sx) (hL : L ≤ 3072) (hn : n + 5 < L) (hk : kc + 80 ≤ 601024 ∧ ks + 480 ≤ 7293034) (hJ : JI ext Mc Mm) (K : NX X g cL A sb kc ks Z n aM aC ext ao) : AtN X (g.1, g.2.1) (WS g aM aC ext Mc Mm ao cL f) A 7 kc ks Z 2777 (lvB n ao (aM 0) (aC 0) sb) [] := by
  have hD := hJ.1
  have hI := hJ.2.1
  have hW := hJ.2.2.1
  have h : segB code 2777 [(.aload_n 1, 1), (.aload_n 3, 1), (.invokestatic 280, 3), (.istore 5, 2), (.aload_n 2, 1), (.invokevirtual 283, 3), (.istore 6, 2), (.aload_n 2, 1), (.invokevirtual 165, 3), (.iload 5, 2), (.if_icmp .eq 5, 3), (.iconst 0, 1), (.ireturn, 1), (.iload 5, 2), (.ifCond .ne 15, 3), (.aload_n 3, 1), (.iconst 0, 1), (.laload, 1), (.iload 6, 2), (.i2l, 1), (.lcmp, 1), (.ifCond .eq 5, 3), (.iconst 0, 1), (.ireturn, 1), (.goto 747, 3)] = true := by decide +kernel
  obtain ⟨dx, h⟩ := seg1 h
  refine n_aload_n C.1.1 dx rfl ?_
  obtain ⟨dx, h⟩ := seg1 h
  refine n_aload_n C.1.1 dx rfl ?_
  obtain ⟨dx, h⟩ := seg1 h
  refine l_stat C [.ref (aC 0), .ref ao] mh_maker lkH_maker (hc_maker (g := gA g aC) (s_R_maker hD hI hW (qd1 (cv := cvI)))) (by decide) rfl rfl (by decide) dx ⟨by omega, by omega⟩ (fun k Mc1 f1 hq => ?_)
  obtain ⟨dx, h⟩ := seg1 h
  refine n_istore C.1.1 dx (by decide) rfl ?_
  obtain ⟨dx, h⟩ := seg1 h
  refine n_aload_n C.1.1 dx rfl ?_
  obtain ⟨dx, h⟩ := seg1 h
  refine l_R C [] meM_maker lkM_maker (ct_M_maker (g := gA g aM) (s_M_maker hI qoM)) (by decide) rfl rfl rfl (by decide) dx ⟨by omega, by omega⟩ (fun v Mm1 hv => ?_)
  obtain ⟨rfl, hQ, rfl⟩ := hq
  obtain ⟨rfl, hU⟩ := hv
  exact tailI C h (by decide) hU.2.2.2.2.2.2 fO_I ⟨by omega, by omega⟩ (n_to rfl (by omega) (by omega) (K aC ext Mc1 Mm1 _ rfl (hJ.o hQ (os_Maker hI) hU) (Nat.le_add_right _ _)))
theorem lkH_recipe : Cond.methodLink RL 284 yL_recipe ∈ GW := gw 1372 (by decide +kernel) (by decide +kernel)
theorem meM_recipe : MeV yX12_recipe cX12_recipe 5 none 4 := ⟨⟨gw 116 (by decide +kernel) (by decide +kernel), gw 2069 (by decide +kernel) (by decide +kernel), by decide +kernel, by decide⟩, gw 2067 (by decide +kernel) (by decide +kernel), gw 2068 (by decide +kernel) (by decide +kernel)⟩
theorem lkM_recipe : Cond.methodLink RL 286 yX12_recipe ∈ GW := gw 2066 (by decide +kernel) (by decide +kernel)
theorem case_recipe {X : FX} {g : GT} {cL : ClassId} {A : Nat → Prop} {sk : Nat → Nat} {sb L : Nat} {sx : Nat → Int32} {kc ks : Nat} {Z : State → Prop} {n : Nat} {aM aC : Nat → Nat} {ext : List CD} {Mc Mm : Mem} {ao : Nat} {f : Nat → Int64} (C : CxL X g cL A sk sb L sx) (hL : L ≤ 3072) (hn : n + 5 < L) (hk : kc + 80 ≤ 601024 ∧ ks + 480 ≤ 7293034) (hJ : JI ext Mc Mm) (K : NX X g cL A sb kc ks Z n aM aC ext ao) : AtN X (g.1, g.2.1) (WS g aM aC ext Mc Mm ao cL f) A 7 kc ks Z 2821 (lvB n ao (aM 0) (aC 0) sb) [] := by
  have hD := hJ.1
  have hI := hJ.2.1
  have hW := hJ.2.2.1
  have h : segB code 2821 [(.aload_n 1, 1), (.aload_n 0, 1), (.iload 4, 2), (.iconst 1, 1), (.iadd, 1), (.iaload, 1), (.aload_n 0, 1), (.iload 4, 2), (.iconst 2, 1), (.iadd, 1), (.iaload, 1), (.aload_n 0, 1), (.iload 4, 2), (.iconst 3, 1), (.iadd, 1), (.iaload, 1), (.aload_n 0, 1), (.iload 4, 2), (.iconst 4, 1), (.iadd, 1), (.iaload, 1), (.invokestatic 284, 3), (.istore 5, 2), (.aload_n 2, 1), (.aload_n 0, 1), (.iload 4, 2), (.iconst 1, 1), (.iadd, 1), (.iaload, 1), (.aload_n 0, 1), (.iload 4, 2), (.iconst 2, 1), (.iadd, 1), (.iaload, 1), (.aload_n 0, 1), (.iload 4, 2), (.iconst 3, 1), (.iadd, 1), (.iaload, 1), (.aload_n 0, 1), (.iload 4, 2), (.iconst 4, 1), (.iadd, 1), (.iaload, 1), (.invokevirtual 286, 3), (.aload_n 2, 1), (.invokevirtual 165, 3), (.iload 5, 2), (.if_icmp .eq 5, 3), (.iconst 0, 1), (.ireturn, 1), (.goto 675, 3)] = true := by decide +kernel
  obtain ⟨dx, h⟩ := seg1 h
  refine n_aload_n C.1.1 dx rfl ?_
  refine l_arg C h (n := n) (j := 1) rfl rfl (by decide) (by omega) hL (fun h => ?_)
  refine l_arg C h (n := n) (j := 2) rfl rfl (by decide) (by omega) hL (fun h => ?_)
  refine l_arg C h (n := n) (j := 3) rfl rfl (by decide) (by omega) hL (fun h => ?_)
  refine l_arg C h (n := n) (j := 4) rfl rfl (by decide) (by omega) hL (fun h => ?_)
  obtain ⟨dx, h⟩ := seg1 h
  refine l_stat C [.ref (aC 0), .int (sx (n + 1)), .int (sx (n + 2)), .int (sx (n + 3)), .int (sx (n + 4))] mh_recipe lkH_recipe (hc_recipe (g := gA g aC) (ao := ao) (s_R_recipe hD hI hW qv2)) (by decide) rfl rfl (by decide) dx ⟨by omega, by omega⟩ (fun k Mc1 f1 hq => ?_)
  obtain ⟨dx, h⟩ := seg1 h
  refine n_istore C.1.1 dx (by decide) rfl ?_
  obtain ⟨dx, h⟩ := seg1 h
  refine n_aload_n C.1.1 dx rfl ?_
  refine l_arg C h (n := n) (j := 1) rfl rfl (by decide) (by omega) hL (fun h => ?_)
  refine l_arg C h (n := n) (j := 2) rfl rfl (by decide) (by omega) hL (fun h => ?_)
  refine l_arg C h (n := n) (j := 3) rfl rfl (by decide) (by omega) hL (fun h => ?_)
  refine l_arg C h (n := n) (j := 4) rfl rfl (by decide) (by omega) hL (fun h => ?_)
  obtain ⟨dx, h⟩ := seg1 h
  refine l_RV C [.int (sx (n + 1)), .int (sx (n + 2)), .int (sx (n + 3)), .int (sx (n + 4))] meM_recipe lkM_recipe (ct_M_recipe (g := gA g aM) (s_M_recipe hI qvM)) (by decide) rfl rfl rfl (by decide) dx ⟨by omega, by omega⟩ (fun Mm1 hv => ?_)
  obtain ⟨rfl, hQ, rfl⟩ := hq
  exact tailV C h (by decide) hv.2.2.2.2.2.2 ⟨by omega, by omega⟩ (n_to rfl (by omega) (by omega) (K aC ext Mc1 Mm1 _ rfl (hJ.o hQ (os_Recipe hI) hv) (Nat.le_add_right _ _)))
