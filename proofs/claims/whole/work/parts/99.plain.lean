/-! THE LAW'S PLAIN CASES -/
theorem meC_fits : MeV yX11_fits cX11_fits 1 (some .int) 0 := ⟨⟨gw 105 (by decide +kernel) (by decide +kernel), gw 654 (by decide +kernel) (by decide +kernel), by decide +kernel, by decide⟩, gw 652 (by decide +kernel) (by decide +kernel), gw 653 (by decide +kernel) (by decide +kernel)⟩
theorem lkC_fits : Cond.methodLink RL 176 yX11_fits ∈ GW := gw 651 (by decide +kernel) (by decide +kernel)
theorem meM_fits : MeV yX12_fits cX12_fits 1 (some .int) 0 := ⟨⟨gw 116 (by decide +kernel) (by decide +kernel), gw 1790 (by decide +kernel) (by decide +kernel), by decide +kernel, by decide⟩, gw 1788 (by decide +kernel) (by decide +kernel), gw 1789 (by decide +kernel) (by decide +kernel)⟩
theorem lkM_fits : Cond.methodLink RL 179 yX12_fits ∈ GW := gw 1787 (by decide +kernel) (by decide +kernel)
theorem case_fits {X : FX} {g : GT} {cL : ClassId} {A : Nat → Prop} {sk : Nat → Nat} {sb L : Nat} {sx : Nat → Int32} {kc ks : Nat} {Z : State → Prop} {n : Nat} {aM aC : Nat → Nat} {ext : List CD} {Mc Mm : Mem} {ao : Nat} {f : Nat → Int64} (C : CxL X g cL A sk sb L sx) (hL : L ≤ 3072) (hn : n + 5 < L) (hk : kc + 80 ≤ 601024 ∧ ks + 480 ≤ 7293034) (hJ : JI ext Mc Mm) (K : NX X g cL A sb kc ks Z n aM aC ext ao) : AtN X (g.1, g.2.1) (WS g aM aC ext Mc Mm ao cL f) A 7 kc ks Z 638 (lvB n ao (aM 0) (aC 0) sb) [] := by
  have hD := hJ.1
  have hI := hJ.2.1
  have hW := hJ.2.2.1
  have h : segB code 638 [(.aload_n 1, 1), (.invokevirtual 176, 3), (.aload_n 2, 1), (.invokevirtual 179, 3), (.if_icmp .eq 2919, 3), (.iconst 0, 1), (.ireturn, 1)] = true := by decide +kernel
  obtain ⟨dx, h⟩ := seg1 h
  refine n_aload_n C.1.1 dx rfl ?_
  have hT := hJ.2.2.2.1
  obtain ⟨dx, h⟩ := seg1 h
  refine l_C C [] meC_fits lkC_fits (ct_R_fits (g := gA g aC) (s_R_fits (post := fun r M1 => r = nI (cntB (isJ (Mm 1)) (10 + 90 * nn (Mm 1 0))) ∧ M1 = Mc) hD hI ⟨rfl, rfl⟩)) (by decide) rfl rfl rfl (by decide) dx ⟨by omega, by omega⟩ (fun r Mc1 hq => ?_)
  obtain ⟨dx, h⟩ := seg1 h
  refine n_aload_n C.1.1 dx rfl ?_
  obtain ⟨dx, h⟩ := seg1 h
  refine l_R C [] meM_fits lkM_fits (ct_M_fits (g := gA g aM) (s_M_fits hI qrM)) (by decide) rfl rfl rfl (Nat.le_of_ble_eq_true rfl) dx ⟨by omega, by omega⟩ (fun v Mm1 hv => ?_)
  obtain ⟨dx, h⟩ := seg1 h
  obtain ⟨rfl, rfl⟩ := hq
  obtain ⟨rfl, hS, -⟩ := hv
  exact l_cmp C dx (by decide) (n_to rfl (by omega) (by omega) (K aC ext Mc1 Mm1 _ rfl (hJ.n hS) (Nat.le_add_right _ _)))
theorem meC_fit : MeV yX11_fit cX11_fit 2 (some .int) 1 := ⟨⟨gw 105 (by decide +kernel) (by decide +kernel), gw 695 (by decide +kernel) (by decide +kernel), by decide +kernel, by decide⟩, gw 693 (by decide +kernel) (by decide +kernel), gw 694 (by decide +kernel) (by decide +kernel)⟩
theorem lkC_fit : Cond.methodLink RL 180 yX11_fit ∈ GW := gw 692 (by decide +kernel) (by decide +kernel)
theorem meM_fit : MeV yX12_fit cX12_fit 2 (some .int) 1 := ⟨⟨gw 116 (by decide +kernel) (by decide +kernel), gw 1803 (by decide +kernel) (by decide +kernel), by decide +kernel, by decide⟩, gw 1801 (by decide +kernel) (by decide +kernel), gw 1802 (by decide +kernel) (by decide +kernel)⟩
theorem lkM_fit : Cond.methodLink RL 183 yX12_fit ∈ GW := gw 1800 (by decide +kernel) (by decide +kernel)
theorem case_fit {X : FX} {g : GT} {cL : ClassId} {A : Nat → Prop} {sk : Nat → Nat} {sb L : Nat} {sx : Nat → Int32} {kc ks : Nat} {Z : State → Prop} {n : Nat} {aM aC : Nat → Nat} {ext : List CD} {Mc Mm : Mem} {ao : Nat} {f : Nat → Int64} (C : CxL X g cL A sk sb L sx) (hL : L ≤ 3072) (hn : n + 5 < L) (hk : kc + 80 ≤ 601024 ∧ ks + 480 ≤ 7293034) (hJ : JI ext Mc Mm) (K : NX X g cL A sb kc ks Z n aM aC ext ao) : AtN X (g.1, g.2.1) (WS g aM aC ext Mc Mm ao cL f) A 7 kc ks Z 651 (lvB n ao (aM 0) (aC 0) sb) [] := by
  have hD := hJ.1
  have hI := hJ.2.1
  have hW := hJ.2.2.1
  have h : segB code 651 [(.aload_n 1, 1), (.aload_n 0, 1), (.iload 4, 2), (.iconst 1, 1), (.iadd, 1), (.iaload, 1), (.invokevirtual 180, 3), (.aload_n 2, 1), (.aload_n 0, 1), (.iload 4, 2), (.iconst 1, 1), (.iadd, 1), (.iaload, 1), (.invokevirtual 183, 3), (.if_icmp .eq 2894, 3), (.iconst 0, 1), (.ireturn, 1)] = true := by decide +kernel
  obtain ⟨dx, h⟩ := seg1 h
  refine n_aload_n C.1.1 dx rfl ?_
  have hT := hJ.2.2.2.1
  refine l_arg C h (n := n) (j := 1) rfl rfl (by decide) (by omega) hL (fun h => ?_)
  obtain ⟨dx, h⟩ := seg1 h
  refine l_C C [.int (sx (n + 1))] meC_fit lkC_fit (ct_R_fit (g := gA g aC) (s_R_fit (post := fun r M1 => r = (if 0 ≤ sx (n + 1) then fitR (isJ (Mm 1)) (vlJ (nn (Mm 1 0))) (sx (n + 1)) (10 + 90 * nn (Mm 1 0)) else -1) ∧ M1 = Mc) hD hI ⟨rfl, rfl⟩)) (by decide) rfl rfl rfl (by decide) dx ⟨by omega, by omega⟩ (fun r Mc1 hq => ?_)
  obtain ⟨dx, h⟩ := seg1 h
  refine n_aload_n C.1.1 dx rfl ?_
  refine l_arg C h (n := n) (j := 1) rfl rfl (by decide) (by omega) hL (fun h => ?_)
  obtain ⟨dx, h⟩ := seg1 h
  refine l_R C [.int (sx (n + 1))] meM_fit lkM_fit (ct_M_fit (g := gA g aM) (s_M_fit hI qrM)) (by decide) rfl rfl rfl (Nat.le_of_ble_eq_true rfl) dx ⟨by omega, by omega⟩ (fun v Mm1 hv => ?_)
  obtain ⟨dx, h⟩ := seg1 h
  obtain ⟨rfl, rfl⟩ := hq
  obtain ⟨rfl, hS, -⟩ := hv
  exact l_cmp C dx (by decide) (n_to rfl (by omega) (by omega) (K aC ext Mc1 Mm1 _ rfl (hJ.n hS) (Nat.le_add_right _ _)))
theorem meC_laws : MeV yX11_laws cX11_laws 1 (some .int) 0 := ⟨⟨gw 105 (by decide +kernel) (by decide +kernel), gw 703 (by decide +kernel) (by decide +kernel), by decide +kernel, by decide⟩, gw 701 (by decide +kernel) (by decide +kernel), gw 702 (by decide +kernel) (by decide +kernel)⟩
theorem lkC_laws : Cond.methodLink RL 192 yX11_laws ∈ GW := gw 700 (by decide +kernel) (by decide +kernel)
theorem meM_laws : MeV yX12_laws cX12_laws 1 (some .int) 0 := ⟨⟨gw 116 (by decide +kernel) (by decide +kernel), gw 1818 (by decide +kernel) (by decide +kernel), by decide +kernel, by decide⟩, gw 1816 (by decide +kernel) (by decide +kernel), gw 1817 (by decide +kernel) (by decide +kernel)⟩
theorem lkM_laws : Cond.methodLink RL 195 yX12_laws ∈ GW := gw 1815 (by decide +kernel) (by decide +kernel)
theorem case_laws {X : FX} {g : GT} {cL : ClassId} {A : Nat → Prop} {sk : Nat → Nat} {sb L : Nat} {sx : Nat → Int32} {kc ks : Nat} {Z : State → Prop} {n : Nat} {aM aC : Nat → Nat} {ext : List CD} {Mc Mm : Mem} {ao : Nat} {f : Nat → Int64} (C : CxL X g cL A sk sb L sx) (hL : L ≤ 3072) (hn : n + 5 < L) (hk : kc + 80 ≤ 601024 ∧ ks + 480 ≤ 7293034) (hJ : JI ext Mc Mm) (K : NX X g cL A sb kc ks Z n aM aC ext ao) : AtN X (g.1, g.2.1) (WS g aM aC ext Mc Mm ao cL f) A 7 kc ks Z 836 (lvB n ao (aM 0) (aC 0) sb) [] := by
  have hD := hJ.1
  have hI := hJ.2.1
  have hW := hJ.2.2.1
  have h : segB code 836 [(.aload_n 1, 1), (.invokevirtual 192, 3), (.aload_n 2, 1), (.invokevirtual 195, 3), (.if_icmp .eq 2721, 3), (.iconst 0, 1), (.ireturn, 1)] = true := by decide +kernel
  obtain ⟨dx, h⟩ := seg1 h
  refine n_aload_n C.1.1 dx rfl ?_
  have hT := hJ.2.2.2.1
  obtain ⟨dx, h⟩ := seg1 h
  refine l_C C [] meC_laws lkC_laws (ct_R_laws (g := gA g aC) (s_R_laws (post := fun r M1 => r = I (toA (Mm 1) 0) ∧ FrQ Mc M1 ∧ Lw M1 (Mm 1)) hD hI hW (fun _ a b => ⟨rfl, a, b⟩))) (by decide) rfl rfl rfl (by decide) dx ⟨by omega, by omega⟩ (fun r Mc1 hq => ?_)
  obtain ⟨dx, h⟩ := seg1 h
  refine n_aload_n C.1.1 dx rfl ?_
  obtain ⟨dx, h⟩ := seg1 h
  refine l_R C [] meM_laws lkM_laws (ct_M_laws (g := gA g aM) (s_M_laws hI qrM)) (by decide) rfl rfl rfl (Nat.le_of_ble_eq_true rfl) dx ⟨by omega, by omega⟩ (fun v Mm1 hv => ?_)
  obtain ⟨dx, h⟩ := seg1 h
  obtain ⟨rfl, hF, hL1⟩ := hq
  obtain ⟨rfl, hS, -⟩ := hv
  exact l_cmp C dx (by decide) (n_to rfl (by omega) (by omega) (K aC ext Mc1 Mm1 _ rfl (hJ.q hF hL1 hS) (Nat.le_add_right _ _)))
theorem meC_slipped : MeV yX11_slipped cX11_slipped 2 (some .int) 0 := ⟨⟨gw 105 (by decide +kernel) (by decide +kernel), gw 755 (by decide +kernel) (by decide +kernel), by decide +kernel, by decide⟩, gw 753 (by decide +kernel) (by decide +kernel), gw 754 (by decide +kernel) (by decide +kernel)⟩
theorem lkC_slipped : Cond.methodLink RL 204 yX11_slipped ∈ GW := gw 752 (by decide +kernel) (by decide +kernel)
theorem meM_slipped : MeV yX12_slipped cX12_slipped 2 (some .int) 0 := ⟨⟨gw 116 (by decide +kernel) (by decide +kernel), gw 1846 (by decide +kernel) (by decide +kernel), by decide +kernel, by decide⟩, gw 1844 (by decide +kernel) (by decide +kernel), gw 1845 (by decide +kernel) (by decide +kernel)⟩
theorem lkM_slipped : Cond.methodLink RL 207 yX12_slipped ∈ GW := gw 1843 (by decide +kernel) (by decide +kernel)
theorem case_slipped {X : FX} {g : GT} {cL : ClassId} {A : Nat → Prop} {sk : Nat → Nat} {sb L : Nat} {sx : Nat → Int32} {kc ks : Nat} {Z : State → Prop} {n : Nat} {aM aC : Nat → Nat} {ext : List CD} {Mc Mm : Mem} {ao : Nat} {f : Nat → Int64} (C : CxL X g cL A sk sb L sx) (hL : L ≤ 3072) (hn : n + 5 < L) (hk : kc + 80 ≤ 601024 ∧ ks + 480 ≤ 7293034) (hJ : JI ext Mc Mm) (K : NX X g cL A sb kc ks Z n aM aC ext ao) : AtN X (g.1, g.2.1) (WS g aM aC ext Mc Mm ao cL f) A 7 kc ks Z 1017 (lvB n ao (aM 0) (aC 0) sb) [] := by
  have hD := hJ.1
  have hI := hJ.2.1
  have hW := hJ.2.2.1
  have h : segB code 1017 [(.aload_n 1, 1), (.invokevirtual 204, 3), (.aload_n 2, 1), (.invokevirtual 207, 3), (.if_icmp .eq 2540, 3), (.iconst 0, 1), (.ireturn, 1)] = true := by decide +kernel
  obtain ⟨dx, h⟩ := seg1 h
  refine n_aload_n C.1.1 dx rfl ?_
  have hT := hJ.2.2.2.1
  obtain ⟨dx, h⟩ := seg1 h
  refine l_C C [] meC_slipped lkC_slipped (ct_R_slipped (g := gA g aC) (s_R_slipped (post := fun r M1 => r = slF (Mm 1) 31 ∧ FrQ Mc M1 ∧ Lw M1 (Mm 1)) hD hI hW (fun _ a b => ⟨rfl, a, b⟩))) (by decide) rfl rfl rfl (by decide) dx ⟨by omega, by omega⟩ (fun r Mc1 hq => ?_)
  obtain ⟨dx, h⟩ := seg1 h
  refine n_aload_n C.1.1 dx rfl ?_
  obtain ⟨dx, h⟩ := seg1 h
  refine l_R C [] meM_slipped lkM_slipped (ct_M_slipped (g := gA g aM) (s_M_slipped hI qrM)) (by decide) rfl rfl rfl (Nat.le_of_ble_eq_true rfl) dx ⟨by omega, by omega⟩ (fun v Mm1 hv => ?_)
  obtain ⟨dx, h⟩ := seg1 h
  generalize slF (Mm 1) 31 = z at hq hv
  obtain ⟨rfl, hF, hL1⟩ := hq
  obtain ⟨rfl, hS, -⟩ := hv
  exact l_cmp C dx (by decide) (n_to rfl (by omega) (by omega) (K aC ext Mc1 Mm1 _ rfl (hJ.q hF hL1 hS) (Nat.le_add_right _ _)))
theorem meC_away : MeV yX11_away cX11_away 1 (some .int) 0 := ⟨⟨gw 105 (by decide +kernel) (by decide +kernel), gw 766 (by decide +kernel) (by decide +kernel), by decide +kernel, by decide⟩, gw 764 (by decide +kernel) (by decide +kernel), gw 765 (by decide +kernel) (by decide +kernel)⟩
theorem lkC_away : Cond.methodLink RL 228 yX11_away ∈ GW := gw 763 (by decide +kernel) (by decide +kernel)
theorem meM_away : MeV yX12_away cX12_away 1 (some .int) 0 := ⟨⟨gw 116 (by decide +kernel) (by decide +kernel), gw 1878 (by decide +kernel) (by decide +kernel), by decide +kernel, by decide⟩, gw 1876 (by decide +kernel) (by decide +kernel), gw 1877 (by decide +kernel) (by decide +kernel)⟩
theorem lkM_away : Cond.methodLink RL 231 yX12_away ∈ GW := gw 1875 (by decide +kernel) (by decide +kernel)
theorem case_away {X : FX} {g : GT} {cL : ClassId} {A : Nat → Prop} {sk : Nat → Nat} {sb L : Nat} {sx : Nat → Int32} {kc ks : Nat} {Z : State → Prop} {n : Nat} {aM aC : Nat → Nat} {ext : List CD} {Mc Mm : Mem} {ao : Nat} {f : Nat → Int64} (C : CxL X g cL A sk sb L sx) (hL : L ≤ 3072) (hn : n + 5 < L) (hk : kc + 80 ≤ 601024 ∧ ks + 480 ≤ 7293034) (hJ : JI ext Mc Mm) (K : NX X g cL A sb kc ks Z n aM aC ext ao) : AtN X (g.1, g.2.1) (WS g aM aC ext Mc Mm ao cL f) A 7 kc ks Z 1474 (lvB n ao (aM 0) (aC 0) sb) [] := by
  have hD := hJ.1
  have hI := hJ.2.1
  have hW := hJ.2.2.1
  have h : segB code 1474 [(.aload_n 1, 1), (.invokevirtual 228, 3), (.aload_n 2, 1), (.invokevirtual 231, 3), (.if_icmp .eq 2083, 3), (.iconst 0, 1), (.ireturn, 1)] = true := by decide +kernel
  obtain ⟨dx, h⟩ := seg1 h
  refine n_aload_n C.1.1 dx rfl ?_
  have hT := hJ.2.2.2.1
  obtain ⟨dx, h⟩ := seg1 h
  refine l_C C [] meC_away lkC_away (ct_R_away (g := gA g aC) (s_R_away (post := fun r M1 => r = (oAway (Mm 1)).2.1 ∧ FrD Mc M1 ∧ Dk 1 M1 (oAway (Mm 1)).2.2 ∧ Lw M1 (oAway (Mm 1)).2.2) hD hI hW (fun _ a b c => ⟨rfl, a, b, c⟩))) (by decide) rfl rfl rfl (by decide) dx ⟨by omega, by omega⟩ (fun r Mc1 hq => ?_)
  obtain ⟨dx, h⟩ := seg1 h
  refine n_aload_n C.1.1 dx rfl ?_
  obtain ⟨dx, h⟩ := seg1 h
  refine l_R C [] meM_away lkM_away (ct_M_away (g := gA g aM) (s_M_away qoM)) (by decide) rfl rfl rfl (Nat.le_of_ble_eq_true rfl) dx ⟨by omega, by omega⟩ (fun v Mm1 hv => ?_)
  obtain ⟨dx, h⟩ := seg1 h
  obtain ⟨rfl, hF, hD1, hL1⟩ := hq
  obtain ⟨rfl, hU⟩ := hv
  exact l_cmp C dx (by decide) (n_to rfl (by omega) (by omega) (K aC ext Mc1 Mm1 _ rfl (hJ.d hF hD1 hL1 (kp_Away hI) hU) (Nat.le_add_right _ _)))
theorem meC_fault : MeV yX11_fault cX11_fault 1 (some .int) 0 := ⟨⟨gw 105 (by decide +kernel) (by decide +kernel), gw 770 (by decide +kernel) (by decide +kernel), by decide +kernel, by decide⟩, gw 768 (by decide +kernel) (by decide +kernel), gw 769 (by decide +kernel) (by decide +kernel)⟩
theorem lkC_fault : Cond.methodLink RL 308 yX11_fault ∈ GW := gw 767 (by decide +kernel) (by decide +kernel)
theorem meM_fault : MeV yX12_fault cX12_fault 1 (some .int) 0 := ⟨⟨gw 116 (by decide +kernel) (by decide +kernel), gw 2124 (by decide +kernel) (by decide +kernel), by decide +kernel, by decide⟩, gw 2122 (by decide +kernel) (by decide +kernel), gw 2123 (by decide +kernel) (by decide +kernel)⟩
theorem lkM_fault : Cond.methodLink RL 311 yX12_fault ∈ GW := gw 2121 (by decide +kernel) (by decide +kernel)
theorem case_fault {X : FX} {g : GT} {cL : ClassId} {A : Nat → Prop} {sk : Nat → Nat} {sb L : Nat} {sx : Nat → Int32} {kc ks : Nat} {Z : State → Prop} {n : Nat} {aM aC : Nat → Nat} {ext : List CD} {Mc Mm : Mem} {ao : Nat} {f : Nat → Int64} (C : CxL X g cL A sk sb L sx) (hL : L ≤ 3072) (hn : n + 5 < L) (hk : kc + 80 ≤ 601024 ∧ ks + 480 ≤ 7293034) (hJ : JI ext Mc Mm) (K : NX X g cL A sb kc ks Z n aM aC ext ao) : AtN X (g.1, g.2.1) (WS g aM aC ext Mc Mm ao cL f) A 7 kc ks Z 3428 (lvB n ao (aM 0) (aC 0) sb) [] := by
  have hD := hJ.1
  have hI := hJ.2.1
  have hW := hJ.2.2.1
  have h : segB code 3428 [(.aload_n 1, 1), (.invokevirtual 308, 3), (.aload_n 2, 1), (.invokevirtual 311, 3), (.if_icmp .eq 129, 3), (.iconst 0, 1), (.ireturn, 1)] = true := by decide +kernel
  obtain ⟨dx, h⟩ := seg1 h
  refine n_aload_n C.1.1 dx rfl ?_
  have hT := hJ.2.2.2.1
  obtain ⟨dx, h⟩ := seg1 h
  refine l_C C [] meC_fault lkC_fault (ct_R_fault (g := gA g aC) (s_R_fault (post := fun r M1 => r = Mm 0 24 ∧ M1 = Mc) ⟨hJ.2.2.2.2.2.1, rfl⟩)) (by decide) rfl rfl rfl (by decide) dx ⟨by omega, by omega⟩ (fun r Mc1 hq => ?_)
  obtain ⟨dx, h⟩ := seg1 h
  refine n_aload_n C.1.1 dx rfl ?_
  obtain ⟨dx, h⟩ := seg1 h
  refine l_R C [] meM_fault lkM_fault (ct_M_fault (g := gA g aM) (s_M_fault qrM)) (by decide) rfl rfl rfl (Nat.le_of_ble_eq_true rfl) dx ⟨by omega, by omega⟩ (fun v Mm1 hv => ?_)
  obtain ⟨dx, h⟩ := seg1 h
  obtain ⟨rfl, rfl⟩ := hq
  obtain ⟨rfl, hS, -⟩ := hv
  exact l_cmp C dx (by decide) (n_to rfl (by omega) (by omega) (K aC ext Mc1 Mm1 _ rfl (hJ.n hS) (Nat.le_add_right _ _)))
theorem meC_count : MeV yX11_count cX11_count 2 (some .int) 1 := ⟨⟨gw 105 (by decide +kernel) (by decide +kernel), gw 806 (by decide +kernel) (by decide +kernel), by decide +kernel, by decide⟩, gw 804 (by decide +kernel) (by decide +kernel), gw 805 (by decide +kernel) (by decide +kernel)⟩
theorem lkC_count : Cond.methodLink RL 324 yX11_count ∈ GW := gw 803 (by decide +kernel) (by decide +kernel)
theorem meM_count : MeV yX12_count cX12_count 4 (some .int) 1 := ⟨⟨gw 116 (by decide +kernel) (by decide +kernel), gw 2219 (by decide +kernel) (by decide +kernel), by decide +kernel, by decide⟩, gw 2217 (by decide +kernel) (by decide +kernel), gw 2218 (by decide +kernel) (by decide +kernel)⟩
theorem lkM_count : Cond.methodLink RL 327 yX12_count ∈ GW := gw 2216 (by decide +kernel) (by decide +kernel)
theorem case_count {X : FX} {g : GT} {cL : ClassId} {A : Nat → Prop} {sk : Nat → Nat} {sb L : Nat} {sx : Nat → Int32} {kc ks : Nat} {Z : State → Prop} {n : Nat} {aM aC : Nat → Nat} {ext : List CD} {Mc Mm : Mem} {ao : Nat} {f : Nat → Int64} (C : CxL X g cL A sk sb L sx) (hL : L ≤ 3072) (hn : n + 5 < L) (hk : kc + 80 ≤ 601024 ∧ ks + 480 ≤ 7293034) (hJ : JI ext Mc Mm) (K : NX X g cL A sb kc ks Z n aM aC ext ao) : AtN X (g.1, g.2.1) (WS g aM aC ext Mc Mm ao cL f) A 7 kc ks Z 3540 (lvB n ao (aM 0) (aC 0) sb) [] := by
  have hD := hJ.1
  have hI := hJ.2.1
  have hW := hJ.2.2.1
  have h : segB code 3540 [(.aload_n 1, 1), (.aload_n 0, 1), (.iload 4, 2), (.iconst 1, 1), (.iadd, 1), (.iaload, 1), (.invokevirtual 324, 3), (.aload_n 2, 1), (.aload_n 0, 1), (.iload 4, 2), (.iconst 1, 1), (.iadd, 1), (.iaload, 1), (.invokevirtual 327, 3), (.if_icmp .eq 5, 3), (.iconst 0, 1), (.ireturn, 1)] = true := by decide +kernel
  obtain ⟨dx, h⟩ := seg1 h
  refine n_aload_n C.1.1 dx rfl ?_
  have hT := hJ.2.2.2.1
  refine l_arg C h (n := n) (j := 1) rfl rfl (by decide) (by omega) hL (fun h => ?_)
  obtain ⟨dx, h⟩ := seg1 h
  refine l_C C [.int (sx (n + 1))] meC_count lkC_count (ci_all (spI (Mm 1)) (fun i => ct_R_count (g := gA g aC) (s_R_count (post := fun r M1 => r = ctA (Mm 1) i.1.1 i.1.2 (sx (n + 1)) ∧ FrQ Mc M1 ∧ Lw M1 (Mm 1)) hD hI hW i.2 (fun _ a b => ⟨rfl, a, b⟩)))) (by decide) rfl rfl rfl (by decide) dx ⟨by omega, by omega⟩ (fun r Mc1 hq => ?_)
  obtain ⟨dx, h⟩ := seg1 h
  refine n_aload_n C.1.1 dx rfl ?_
  refine l_arg C h (n := n) (j := 1) rfl rfl (by decide) (by omega) hL (fun h => ?_)
  obtain ⟨dx, h⟩ := seg1 h
  refine l_R C [.int (sx (n + 1))] meM_count lkM_count (ct_M_count (g := gA g aM) (s_M_count hI qsM)) (by decide) rfl rfl rfl (Nat.le_of_ble_eq_true rfl) dx ⟨by omega, by omega⟩ (fun v Mm1 hv => ?_)
  obtain ⟨dx, h⟩ := seg1 h
  obtain ⟨lo, hi, hS9, rfl, hS, -⟩ := hv
  obtain ⟨M2, e1, -, -⟩ := hq.2 ⟨(lo, hi), hS9⟩
  obtain ⟨-, hF, hL1⟩ := hq.1
  subst e1
  exact l_cmp C dx (by decide) (n_to rfl (by omega) (by omega) (K aC ext Mc1 Mm1 _ rfl (hJ.q hF hL1 hS) (Nat.le_add_right _ _)))
