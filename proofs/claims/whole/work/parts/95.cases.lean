/-! THE LAW'S CASES (printed by cases.py) -/
def NX (X : FX) (g : GT) (cL : ClassId) (A : Nat → Prop) (sb kc ks : Nat) (Z : State → Prop) (n : Nat) (aM aC : Nat → Nat) (ext : List CD) (ao : Nat) : Prop :=
  ∀ (aC2 : Nat → Nat) (ext2 : List CD) (Mc2 Mm2 : Mem) (f2 : Nat → Int64), aC2 0 = aC 0 → JI ext2 Mc2 Mm2 → nC ext2 ≤ nC ext + 2 → AtN X (g.1, g.2.1) (WS g aM aC2 ext2 Mc2 Mm2 ao cL f2) A 7 (kc + 80) (ks + 480) Z 3565 (lvB n ao (aM 0) (aC 0) sb) []
def RQ (M : Mem) (w : Nat → Int32) (cv : Int32 → Int64) (f : Nat → Int64) (q : Int32 × Int32) (r : Int32) (M1 : Mem) (f1 : Nat → Int64) : Prop := r = q.1 ∧ FrQ M M1 ∧ Lw M1 w ∧ f1 = fO cv q.1 q.2 f
theorem qx1 {M : Mem} {w : Nat → Int32} {cv : Int32 → Int64} {f : Nat → Int64} {q : Int32 × Int32} {E1 : String} (hL : Lw M w) : QX (fun r M1 => RQ M w cv f q 0 M1 (vp_updL f 0 (cv r))) (fun E M1 => (E = E1 ∧ RQ M w cv f q 1 M1 f)) M w [E1] q := QX1 (ext := []) (post := RQ M w cv f q) hL (fun _ a b => ⟨rfl, a, b, rfl⟩)
theorem qx2 {M : Mem} {w : Nat → Int32} {cv : Int32 → Int64} {f : Nat → Int64} {q : Int32 × Int32} {E1 E2 : String} (hL : Lw M w) : QX (fun r M1 => RQ M w cv f q 0 M1 (vp_updL f 0 (cv r))) (fun E M1 => (E = E1 ∧ RQ M w cv f q 1 M1 f) ∨ (E = E2 ∧ RQ M w cv f q 2 M1 f)) M w [E1, E2] q := QX2 (post := RQ M w cv f q) hL (fun _ a b => ⟨rfl, a, b, rfl⟩)
def RD (M : Mem) (cv : Int32 → Int64) (f : Nat → Int64) (o : OC) (r : Int32) (M1 : Mem) (f1 : Nat → Int64) : Prop := r = o.1 ∧ DQ M o M1 ∧ f1 = fO cv o.1 o.2.1 f
theorem qd1 {M : Mem} {cv : Int32 → Int64} {f : Nat → Int64} {o : OC} {E1 : String} : QD (fun r M1 => RD M cv f o 0 M1 (vp_updL f 0 (cv r))) (fun E M1 => (E = E1 ∧ RD M cv f o 1 M1 f)) M [E1] o := QD1 (post := RD M cv f o) (fun _ a => ⟨rfl, a, rfl⟩)
theorem qd2 {M : Mem} {cv : Int32 → Int64} {f : Nat → Int64} {o : OC} {E1 E2 : String} : QD (fun r M1 => RD M cv f o 0 M1 (vp_updL f 0 (cv r))) (fun E M1 => (E = E1 ∧ RD M cv f o 1 M1 f) ∨ (E = E2 ∧ RD M cv f o 2 M1 f)) M [E1, E2] o := QD2 (post := RD M cv f o) (fun _ a => ⟨rfl, a, rfl⟩)
theorem qd3 {M : Mem} {cv : Int32 → Int64} {f : Nat → Int64} {o : OC} {E1 E2 E3 : String} : QD (fun r M1 => RD M cv f o 0 M1 (vp_updL f 0 (cv r))) (fun E M1 => (E = E1 ∧ RD M cv f o 1 M1 f) ∨ (E = E2 ∧ RD M cv f o 2 M1 f) ∨ (E = E3 ∧ RD M cv f o 3 M1 f)) M [E1, E2, E3] o := QD3 (post := RD M cv f o) (fun _ a => ⟨rfl, a, rfl⟩)
def RV (M : Mem) (f : Nat → Int64) (o : OC) (r : Int32) (M1 : Mem) (f1 : Nat → Int64) : Prop := r = o.1 ∧ DQ M o M1 ∧ f1 = f
theorem qv1 {M : Mem} {f : Nat → Int64} {o : OC} {E1 : String} : QD (fun _ M1 => RV M f o 0 M1 f) (fun E M1 => (E = E1 ∧ RV M f o 1 M1 f)) M [E1] o := QV1 (post := RV M f o) (fun _ a => ⟨rfl, a, rfl⟩)
theorem qv2 {M : Mem} {f : Nat → Int64} {o : OC} {E1 E2 : String} : QD (fun _ M1 => RV M f o 0 M1 f) (fun E M1 => (E = E1 ∧ RV M f o 1 M1 f) ∨ (E = E2 ∧ RV M f o 2 M1 f)) M [E1, E2] o := QV2 (post := RV M f o) (fun _ a => ⟨rfl, a, rfl⟩)
def RM (M : Mem) (q : Int32 × Int32) (r : Int32) (M1 : Mem) : Prop := r = q.2 ∧ MSame M M1 ∧ M1 0 0 = q.1
theorem qrM {M : Mem} {q : Int32 × Int32} : Qr (RM M q) M q := fun _ a b => ⟨rfl, a, b⟩
def RO (M : Mem) (o : OC) (r : Int32) (M1 : Mem) : Prop := r = o.2.1 ∧ US M o.1 o.2.2 M1
theorem qoM {M : Mem} {o : OC} : Qo (RO M o) M o := fun _ a => ⟨rfl, a⟩
theorem qvM {M : Mem} {o : OC} : Qo (fun _ M1 => US M o.1 o.2.2 M1) M o := fun _ a => a
def RS (M : Mem) (q : (Nat → Int32) → (Nat → Int32) → Int32 × Int32) (r : Int32) (M1 : Mem) : Prop := ∃ lo hi, SpOK (M 1) (-1) 0 lo hi (nn (M 1 9)) ∧ r = (q lo hi).2 ∧ MSame M M1 ∧ M1 0 0 = (q lo hi).1
theorem qsM {M : Mem} {q : (Nat → Int32) → (Nat → Int32) → Int32 × Int32} : Qs (RS M q) M q := fun lo hi hS _ a b => ⟨lo, hi, hS, rfl, a, b⟩
abbrev SpI (w : Nat → Int32) : Type := { p : (Nat → Int32) × (Nat → Int32) // SpOK w (-1) 0 p.1 p.2 (nn (w 9)) }
def spI (w : Nat → Int32) : SpI w := ⟨(fun r => I (edZ w (plZ w (-1) 0 r) false), fun r => I (edZ w (plZ w (-1) 0 r) true)), fun _ _ => ⟨rfl, rfl⟩⟩
theorem lkH_truly : Cond.methodLink RL 168 yL_truly ∈ GW := gw 901 (by decide +kernel) (by decide +kernel)
theorem meM_truly : MeV yX12_truly cX12_truly 3 (some .int) 2 := ⟨⟨gw 116 (by decide +kernel) (by decide +kernel), gw 1767 (by decide +kernel) (by decide +kernel), by decide +kernel, by decide⟩, gw 1765 (by decide +kernel) (by decide +kernel), gw 1766 (by decide +kernel) (by decide +kernel)⟩
theorem lkM_truly : Cond.methodLink RL 171 yX12_truly ∈ GW := gw 1764 (by decide +kernel) (by decide +kernel)
theorem case_truly {X : FX} {g : GT} {cL : ClassId} {A : Nat → Prop} {sk : Nat → Nat} {sb L : Nat} {sx : Nat → Int32} {kc ks : Nat} {Z : State → Prop} {n : Nat} {aM aC : Nat → Nat} {ext : List CD} {Mc Mm : Mem} {ao : Nat} {f : Nat → Int64} (C : CxL X g cL A sk sb L sx) (hL : L ≤ 3072) (hn : n + 5 < L) (hk : kc + 80 ≤ 601024 ∧ ks + 480 ≤ 7293034) (hJ : JI ext Mc Mm) (K : NX X g cL A sb kc ks Z n aM aC ext ao) : AtN X (g.1, g.2.1) (WS g aM aC ext Mc Mm ao cL f) A 7 kc ks Z 418 (lvB n ao (aM 0) (aC 0) sb) [] := by
  have hD := hJ.1
  have hI := hJ.2.1
  have hW := hJ.2.2.1
  have h : segB code 418 [(.aload_n 1, 1), (.aload_n 0, 1), (.iload 4, 2), (.iconst 1, 1), (.iadd, 1), (.iaload, 1), (.aload_n 0, 1), (.iload 4, 2), (.iconst 2, 1), (.iadd, 1), (.iaload, 1), (.ifCond .eq 7, 3), (.iconst 1, 1), (.goto 4, 3), (.iconst 0, 1), (.aload_n 3, 1), (.invokestatic 168, 3), (.istore 5, 2), (.aload_n 2, 1), (.aload_n 0, 1), (.iload 4, 2), (.iconst 1, 1), (.iadd, 1), (.iaload, 1), (.aload_n 0, 1), (.iload 4, 2), (.iconst 2, 1), (.iadd, 1), (.iaload, 1), (.ifCond .eq 7, 3), (.iconst 1, 1), (.goto 4, 3), (.iconst 0, 1), (.invokevirtual 171, 3), (.istore 6, 2), (.aload_n 2, 1), (.invokevirtual 165, 3), (.iload 5, 2), (.if_icmp .eq 5, 3), (.iconst 0, 1), (.ireturn, 1), (.iload 5, 2), (.ifCond .ne 15, 3), (.aload_n 3, 1), (.iconst 0, 1), (.laload, 1), (.iload 6, 2), (.i2l, 1), (.lcmp, 1), (.ifCond .eq 5, 3), (.iconst 0, 1), (.ireturn, 1), (.goto 3066, 3)] = true := by decide +kernel
  obtain ⟨dx, h⟩ := seg1 h
  refine n_aload_n C.1.1 dx rfl ?_
  refine l_arg C h (n := n) (j := 1) rfl rfl (by decide) (by omega) hL (fun h => ?_)
  refine l_arg C h (n := n) (j := 2) rfl rfl (by decide) (by omega) hL (fun h => ?_)
  refine l_bool C h (fun h => ?_)
  obtain ⟨dx, h⟩ := seg1 h
  refine n_aload_n C.1.1 dx rfl ?_
  obtain ⟨dx, h⟩ := seg1 h
  refine l_stat C [.ref (aC 0), .int (sx (n + 1)), .int (bi (decide (¬ sx (n + 2) = 0))), .ref ao] mh_truly lkH_truly (hc_truly (g := gA g aC) (s_R_truly hD hI hW (qx1 (cv := cvI) hW))) (by decide) rfl rfl (by decide) dx ⟨by omega, by omega⟩ (fun k Mc1 f1 hq => ?_)
  obtain ⟨dx, h⟩ := seg1 h
  refine n_istore C.1.1 dx (by decide) rfl ?_
  obtain ⟨dx, h⟩ := seg1 h
  refine n_aload_n C.1.1 dx rfl ?_
  refine l_arg C h (n := n) (j := 1) rfl rfl (by decide) (by omega) hL (fun h => ?_)
  refine l_arg C h (n := n) (j := 2) rfl rfl (by decide) (by omega) hL (fun h => ?_)
  refine l_bool C h (fun h => ?_)
  obtain ⟨dx, h⟩ := seg1 h
  refine l_R C [.int (sx (n + 1)), .int (bi (decide (¬ sx (n + 2) = 0)))] meM_truly lkM_truly (ct_M_truly (g := gA g aM) (s_M_truly hI qrM)) (by decide) rfl rfl rfl (by decide) dx ⟨by omega, by omega⟩ (fun v Mm1 hv => ?_)
  obtain ⟨rfl, hF, hL1, rfl⟩ := hq
  obtain ⟨rfl, hS, e0⟩ := hv
  exact tailI C h (by decide) e0 fO_I ⟨by omega, by omega⟩ (n_to rfl (by omega) (by omega) (K aC ext Mc1 Mm1 _ rfl (hJ.q hF hL1 hS) (Nat.le_add_right _ _)))
theorem lkH_law : Cond.methodLink RL 196 yL_law ∈ GW := gw 953 (by decide +kernel) (by decide +kernel)
theorem meM_law : MeV yX12_law cX12_law 3 (some .int) 1 := ⟨⟨gw 116 (by decide +kernel) (by decide +kernel), gw 1832 (by decide +kernel) (by decide +kernel), by decide +kernel, by decide⟩, gw 1830 (by decide +kernel) (by decide +kernel), gw 1831 (by decide +kernel) (by decide +kernel)⟩
theorem lkM_law : Cond.methodLink RL 199 yX12_law ∈ GW := gw 1829 (by decide +kernel) (by decide +kernel)
theorem case_law {X : FX} {g : GT} {cL : ClassId} {A : Nat → Prop} {sk : Nat → Nat} {sb L : Nat} {sx : Nat → Int32} {kc ks : Nat} {Z : State → Prop} {n : Nat} {aM aC : Nat → Nat} {ext : List CD} {Mc Mm : Mem} {ao : Nat} {f : Nat → Int64} (C : CxL X g cL A sk sb L sx) (hL : L ≤ 3072) (hn : n + 5 < L) (hk : kc + 80 ≤ 601024 ∧ ks + 480 ≤ 7293034) (hJ : JI ext Mc Mm) (K : NX X g cL A sb kc ks Z n aM aC ext ao) : AtN X (g.1, g.2.1) (WS g aM aC ext Mc Mm ao cL f) A 7 kc ks Z 849 (lvB n ao (aM 0) (aC 0) sb) [] := by
  have hD := hJ.1
  have hI := hJ.2.1
  have hW := hJ.2.2.1
  have h : segB code 849 [(.aload_n 1, 1), (.aload_n 0, 1), (.iload 4, 2), (.iconst 1, 1), (.iadd, 1), (.iaload, 1), (.aload_n 3, 1), (.invokestatic 196, 3), (.istore 5, 2), (.aload_n 2, 1), (.aload_n 0, 1), (.iload 4, 2), (.iconst 1, 1), (.iadd, 1), (.iaload, 1), (.invokevirtual 199, 3), (.istore 6, 2), (.aload_n 2, 1), (.invokevirtual 165, 3), (.iload 5, 2), (.if_icmp .eq 5, 3), (.iconst 0, 1), (.ireturn, 1), (.iload 5, 2), (.ifCond .ne 15, 3), (.aload_n 3, 1), (.iconst 0, 1), (.laload, 1), (.iload 6, 2), (.i2l, 1), (.lcmp, 1), (.ifCond .eq 5, 3), (.iconst 0, 1), (.ireturn, 1), (.goto 2663, 3)] = true := by decide +kernel
  obtain ⟨dx, h⟩ := seg1 h
  refine n_aload_n C.1.1 dx rfl ?_
  refine l_arg C h (n := n) (j := 1) rfl rfl (by decide) (by omega) hL (fun h => ?_)
  obtain ⟨dx, h⟩ := seg1 h
  refine n_aload_n C.1.1 dx rfl ?_
  obtain ⟨dx, h⟩ := seg1 h
  refine l_stat C [.ref (aC 0), .int (sx (n + 1)), .ref ao] mh_law lkH_law (hc_law (g := gA g aC) (s_R_law hD hI hW (qx1 (cv := cvI) hW))) (by decide) rfl rfl (by decide) dx ⟨by omega, by omega⟩ (fun k Mc1 f1 hq => ?_)
  obtain ⟨dx, h⟩ := seg1 h
  refine n_istore C.1.1 dx (by decide) rfl ?_
  obtain ⟨dx, h⟩ := seg1 h
  refine n_aload_n C.1.1 dx rfl ?_
  refine l_arg C h (n := n) (j := 1) rfl rfl (by decide) (by omega) hL (fun h => ?_)
  obtain ⟨dx, h⟩ := seg1 h
  refine l_R C [.int (sx (n + 1))] meM_law lkM_law (ct_M_law (g := gA g aM) (s_M_law hI qrM)) (by decide) rfl rfl rfl (by decide) dx ⟨by omega, by omega⟩ (fun v Mm1 hv => ?_)
  obtain ⟨rfl, hF, hL1, rfl⟩ := hq
  obtain ⟨rfl, hS, e0⟩ := hv
  exact tailI C h (by decide) e0 fO_I ⟨by omega, by omega⟩ (n_to rfl (by omega) (by omega) (K aC ext Mc1 Mm1 _ rfl (hJ.q hF hL1 hS) (Nat.le_add_right _ _)))
theorem lkH_span : Cond.methodLink RL 200 yL_span ∈ GW := gw 981 (by decide +kernel) (by decide +kernel)
theorem meM_span : MeV yX12_span cX12_span 4 (some .int) 3 := ⟨⟨gw 116 (by decide +kernel) (by decide +kernel), gw 1837 (by decide +kernel) (by decide +kernel), by decide +kernel, by decide⟩, gw 1835 (by decide +kernel) (by decide +kernel), gw 1836 (by decide +kernel) (by decide +kernel)⟩
theorem lkM_span : Cond.methodLink RL 203 yX12_span ∈ GW := gw 1834 (by decide +kernel) (by decide +kernel)
theorem case_span {X : FX} {g : GT} {cL : ClassId} {A : Nat → Prop} {sk : Nat → Nat} {sb L : Nat} {sx : Nat → Int32} {kc ks : Nat} {Z : State → Prop} {n : Nat} {aM aC : Nat → Nat} {ext : List CD} {Mc Mm : Mem} {ao : Nat} {f : Nat → Int64} (C : CxL X g cL A sk sb L sx) (hL : L ≤ 3072) (hn : n + 5 < L) (hk : kc + 80 ≤ 601024 ∧ ks + 480 ≤ 7293034) (hJ : JI ext Mc Mm) (K : NX X g cL A sb kc ks Z n aM aC ext ao) : AtN X (g.1, g.2.1) (WS g aM aC ext Mc Mm ao cL f) A 7 kc ks Z 905 (lvB n ao (aM 0) (aC 0) sb) [] := by
  have hD := hJ.1
  have hI := hJ.2.1
  have hW := hJ.2.2.1
  have h : segB code 905 [(.aload_n 1, 1), (.aload_n 0, 1), (.iload 4, 2), (.iconst 1, 1), (.iadd, 1), (.iaload, 1), (.aload_n 0, 1), (.iload 4, 2), (.iconst 2, 1), (.iadd, 1), (.iaload, 1), (.ifCond .eq 7, 3), (.iconst 1, 1), (.goto 4, 3), (.iconst 0, 1), (.aload_n 0, 1), (.iload 4, 2), (.iconst 3, 1), (.iadd, 1), (.iaload, 1), (.ifCond .eq 7, 3), (.iconst 1, 1), (.goto 4, 3), (.iconst 0, 1), (.aload_n 3, 1), (.invokestatic 200, 3), (.istore 5, 2), (.aload_n 2, 1), (.aload_n 0, 1), (.iload 4, 2), (.iconst 1, 1), (.iadd, 1), (.iaload, 1), (.aload_n 0, 1), (.iload 4, 2), (.iconst 2, 1), (.iadd, 1), (.iaload, 1), (.ifCond .eq 7, 3), (.iconst 1, 1), (.goto 4, 3), (.iconst 0, 1), (.aload_n 0, 1), (.iload 4, 2), (.iconst 3, 1), (.iadd, 1), (.iaload, 1), (.ifCond .eq 7, 3), (.iconst 1, 1), (.goto 4, 3), (.iconst 0, 1), (.invokevirtual 203, 3), (.istore 6, 2), (.aload_n 2, 1), (.invokevirtual 165, 3), (.iload 5, 2), (.if_icmp .eq 5, 3), (.iconst 0, 1), (.ireturn, 1), (.iload 5, 2), (.ifCond .ne 15, 3), (.aload_n 3, 1), (.iconst 0, 1), (.laload, 1), (.iload 6, 2), (.i2l, 1), (.lcmp, 1), (.ifCond .eq 5, 3), (.iconst 0, 1), (.ireturn, 1), (.goto 2551, 3)] = true := by decide +kernel
  obtain ⟨dx, h⟩ := seg1 h
  refine n_aload_n C.1.1 dx rfl ?_
  refine l_arg C h (n := n) (j := 1) rfl rfl (by decide) (by omega) hL (fun h => ?_)
  refine l_arg C h (n := n) (j := 2) rfl rfl (by decide) (by omega) hL (fun h => ?_)
  refine l_bool C h (fun h => ?_)
  refine l_arg C h (n := n) (j := 3) rfl rfl (by decide) (by omega) hL (fun h => ?_)
  refine l_bool C h (fun h => ?_)
  obtain ⟨dx, h⟩ := seg1 h
  refine n_aload_n C.1.1 dx rfl ?_
  obtain ⟨dx, h⟩ := seg1 h
  refine l_stat C [.ref (aC 0), .int (sx (n + 1)), .int (bi (decide (¬ sx (n + 2) = 0))), .int (bi (decide (¬ sx (n + 3) = 0))), .ref ao] mh_span lkH_span (hc_span (g := gA g aC) (s_R_span hD hI hW (qx1 (cv := cvI) hW))) (by decide) rfl rfl (by decide) dx ⟨by omega, by omega⟩ (fun k Mc1 f1 hq => ?_)
  obtain ⟨dx, h⟩ := seg1 h
  refine n_istore C.1.1 dx (by decide) rfl ?_
  obtain ⟨dx, h⟩ := seg1 h
  refine n_aload_n C.1.1 dx rfl ?_
  refine l_arg C h (n := n) (j := 1) rfl rfl (by decide) (by omega) hL (fun h => ?_)
  refine l_arg C h (n := n) (j := 2) rfl rfl (by decide) (by omega) hL (fun h => ?_)
  refine l_bool C h (fun h => ?_)
  refine l_arg C h (n := n) (j := 3) rfl rfl (by decide) (by omega) hL (fun h => ?_)
  refine l_bool C h (fun h => ?_)
  obtain ⟨dx, h⟩ := seg1 h
  refine l_R C [.int (sx (n + 1)), .int (bi (decide (¬ sx (n + 2) = 0))), .int (bi (decide (¬ sx (n + 3) = 0)))] meM_span lkM_span (ct_M_span (g := gA g aM) (s_M_span hI qrM)) (by decide) rfl rfl rfl (by decide) dx ⟨by omega, by omega⟩ (fun v Mm1 hv => ?_)
  obtain ⟨rfl, hF, hL1, rfl⟩ := hq
  obtain ⟨rfl, hS, e0⟩ := hv
  exact tailI C h (by decide) e0 fO_I ⟨by omega, by omega⟩ (n_to rfl (by omega) (by omega) (K aC ext Mc1 Mm1 _ rfl (hJ.q hF hL1 hS) (Nat.le_add_right _ _)))
theorem lkH_look : Cond.methodLink RL 224 yL_look ∈ GW := gw 1061 (by decide +kernel) (by decide +kernel)
theorem meM_look : MeV yX12_look cX12_look 4 (some .int) 2 := ⟨⟨gw 116 (by decide +kernel) (by decide +kernel), gw 1882 (by decide +kernel) (by decide +kernel), by decide +kernel, by decide⟩, gw 1880 (by decide +kernel) (by decide +kernel), gw 1881 (by decide +kernel) (by decide +kernel)⟩
theorem lkM_look : Cond.methodLink RL 227 yX12_look ∈ GW := gw 1879 (by decide +kernel) (by decide +kernel)
theorem case_look {X : FX} {g : GT} {cL : ClassId} {A : Nat → Prop} {sk : Nat → Nat} {sb L : Nat} {sx : Nat → Int32} {kc ks : Nat} {Z : State → Prop} {n : Nat} {aM aC : Nat → Nat} {ext : List CD} {Mc Mm : Mem} {ao : Nat} {f : Nat → Int64} (C : CxL X g cL A sk sb L sx) (hL : L ≤ 3072) (hn : n + 5 < L) (hk : kc + 80 ≤ 601024 ∧ ks + 480 ≤ 7293034) (hJ : JI ext Mc Mm) (K : NX X g cL A sb kc ks Z n aM aC ext ao) : AtN X (g.1, g.2.1) (WS g aM aC ext Mc Mm ao cL f) A 7 kc ks Z 1406 (lvB n ao (aM 0) (aC 0) sb) [] := by
  have hD := hJ.1
  have hI := hJ.2.1
  have hW := hJ.2.2.1
  have h : segB code 1406 [(.aload_n 1, 1), (.aload_n 0, 1), (.iload 4, 2), (.iconst 1, 1), (.iadd, 1), (.iaload, 1), (.aload_n 0, 1), (.iload 4, 2), (.iconst 2, 1), (.iadd, 1), (.iaload, 1), (.aload_n 3, 1), (.invokestatic 224, 3), (.istore 5, 2), (.aload_n 2, 1), (.aload_n 0, 1), (.iload 4, 2), (.iconst 1, 1), (.iadd, 1), (.iaload, 1), (.aload_n 0, 1), (.iload 4, 2), (.iconst 2, 1), (.iadd, 1), (.iaload, 1), (.invokevirtual 227, 3), (.istore 6, 2), (.aload_n 2, 1), (.invokevirtual 165, 3), (.iload 5, 2), (.if_icmp .eq 5, 3), (.iconst 0, 1), (.ireturn, 1), (.iload 5, 2), (.ifCond .ne 15, 3), (.aload_n 3, 1), (.iconst 0, 1), (.laload, 1), (.iload 6, 2), (.i2l, 1), (.lcmp, 1), (.ifCond .eq 5, 3), (.iconst 0, 1), (.ireturn, 1), (.goto 2094, 3)] = true := by decide +kernel
  obtain ⟨dx, h⟩ := seg1 h
  refine n_aload_n C.1.1 dx rfl ?_
  refine l_arg C h (n := n) (j := 1) rfl rfl (by decide) (by omega) hL (fun h => ?_)
  refine l_arg C h (n := n) (j := 2) rfl rfl (by decide) (by omega) hL (fun h => ?_)
  obtain ⟨dx, h⟩ := seg1 h
  refine n_aload_n C.1.1 dx rfl ?_
  obtain ⟨dx, h⟩ := seg1 h
  refine l_stat C [.ref (aC 0), .int (sx (n + 1)), .int (sx (n + 2)), .ref ao] mh_look lkH_look (hc_look (g := gA g aC) (s_R_look hD hI hW (qx2 (cv := cvI) hW))) (by decide) rfl rfl (by decide) dx ⟨by omega, by omega⟩ (fun k Mc1 f1 hq => ?_)
  obtain ⟨dx, h⟩ := seg1 h
  refine n_istore C.1.1 dx (by decide) rfl ?_
  obtain ⟨dx, h⟩ := seg1 h
  refine n_aload_n C.1.1 dx rfl ?_
  refine l_arg C h (n := n) (j := 1) rfl rfl (by decide) (by omega) hL (fun h => ?_)
  refine l_arg C h (n := n) (j := 2) rfl rfl (by decide) (by omega) hL (fun h => ?_)
  obtain ⟨dx, h⟩ := seg1 h
  refine l_R C [.int (sx (n + 1)), .int (sx (n + 2))] meM_look lkM_look (ct_M_look (g := gA g aM) (s_M_look hI qrM)) (by decide) rfl rfl rfl (by decide) dx ⟨by omega, by omega⟩ (fun v Mm1 hv => ?_)
  obtain ⟨rfl, hF, hL1, rfl⟩ := hq
  obtain ⟨rfl, hS, e0⟩ := hv
  exact tailI C h (by decide) e0 fO_I ⟨by omega, by omega⟩ (n_to rfl (by omega) (by omega) (K aC ext Mc1 Mm1 _ rfl (hJ.q hF hL1 hS) (Nat.le_add_right _ _)))
theorem lkH_lies : Cond.methodLink RL 232 yL_lies ∈ GW := gw 1069 (by decide +kernel) (by decide +kernel)
theorem meM_lies : MeV yX12_lies cX12_lies 4 (some .int) 3 := ⟨⟨gw 116 (by decide +kernel) (by decide +kernel), gw 1898 (by decide +kernel) (by decide +kernel), by decide +kernel, by decide⟩, gw 1896 (by decide +kernel) (by decide +kernel), gw 1897 (by decide +kernel) (by decide +kernel)⟩
theorem lkM_lies : Cond.methodLink RL 234 yX12_lies ∈ GW := gw 1895 (by decide +kernel) (by decide +kernel)
theorem case_lies {X : FX} {g : GT} {cL : ClassId} {A : Nat → Prop} {sk : Nat → Nat} {sb L : Nat} {sx : Nat → Int32} {kc ks : Nat} {Z : State → Prop} {n : Nat} {aM aC : Nat → Nat} {ext : List CD} {Mc Mm : Mem} {ao : Nat} {f : Nat → Int64} (C : CxL X g cL A sk sb L sx) (hL : L ≤ 3072) (hn : n + 5 < L) (hk : kc + 80 ≤ 601024 ∧ ks + 480 ≤ 7293034) (hJ : JI ext Mc Mm) (K : NX X g cL A sb kc ks Z n aM aC ext ao) : AtN X (g.1, g.2.1) (WS g aM aC ext Mc Mm ao cL f) A 7 kc ks Z 1487 (lvB n ao (aM 0) (aC 0) sb) [] := by
  have hD := hJ.1
  have hI := hJ.2.1
  have hW := hJ.2.2.1
  have h : segB code 1487 [(.aload_n 1, 1), (.aload_n 0, 1), (.iload 4, 2), (.iconst 1, 1), (.iadd, 1), (.iaload, 1), (.aload_n 0, 1), (.iload 4, 2), (.iconst 2, 1), (.iadd, 1), (.iaload, 1), (.aload_n 0, 1), (.iload 4, 2), (.iconst 3, 1), (.iadd, 1), (.iaload, 1), (.aload_n 3, 1), (.invokestatic 232, 3), (.istore 5, 2), (.aload_n 2, 1), (.aload_n 0, 1), (.iload 4, 2), (.iconst 1, 1), (.iadd, 1), (.iaload, 1), (.aload_n 0, 1), (.iload 4, 2), (.iconst 2, 1), (.iadd, 1), (.iaload, 1), (.aload_n 0, 1), (.iload 4, 2), (.iconst 3, 1), (.iadd, 1), (.iaload, 1), (.invokevirtual 234, 3), (.istore 6, 2), (.aload_n 2, 1), (.invokevirtual 165, 3), (.iload 5, 2), (.if_icmp .eq 5, 3), (.iconst 0, 1), (.ireturn, 1), (.iload 5, 2), (.ifCond .ne 15, 3), (.aload_n 3, 1), (.iconst 0, 1), (.laload, 1), (.iload 6, 2), (.i2l, 1), (.lcmp, 1), (.ifCond .eq 5, 3), (.iconst 0, 1), (.ireturn, 1), (.goto 2001, 3)] = true := by decide +kernel
  obtain ⟨dx, h⟩ := seg1 h
  refine n_aload_n C.1.1 dx rfl ?_
  refine l_arg C h (n := n) (j := 1) rfl rfl (by decide) (by omega) hL (fun h => ?_)
  refine l_arg C h (n := n) (j := 2) rfl rfl (by decide) (by omega) hL (fun h => ?_)
  refine l_arg C h (n := n) (j := 3) rfl rfl (by decide) (by omega) hL (fun h => ?_)
  obtain ⟨dx, h⟩ := seg1 h
  refine n_aload_n C.1.1 dx rfl ?_
  obtain ⟨dx, h⟩ := seg1 h
  refine l_stat C [.ref (aC 0), .int (sx (n + 1)), .int (sx (n + 2)), .int (sx (n + 3)), .ref ao] mh_lies lkH_lies (hc_lies (g := gA g aC) (s_R_lies hD hI hW (qx2 (cv := cvI) hW))) (by decide) rfl rfl (by decide) dx ⟨by omega, by omega⟩ (fun k Mc1 f1 hq => ?_)
  obtain ⟨dx, h⟩ := seg1 h
  refine n_istore C.1.1 dx (by decide) rfl ?_
  obtain ⟨dx, h⟩ := seg1 h
  refine n_aload_n C.1.1 dx rfl ?_
  refine l_arg C h (n := n) (j := 1) rfl rfl (by decide) (by omega) hL (fun h => ?_)
  refine l_arg C h (n := n) (j := 2) rfl rfl (by decide) (by omega) hL (fun h => ?_)
  refine l_arg C h (n := n) (j := 3) rfl rfl (by decide) (by omega) hL (fun h => ?_)
  obtain ⟨dx, h⟩ := seg1 h
  refine l_R C [.int (sx (n + 1)), .int (sx (n + 2)), .int (sx (n + 3))] meM_lies lkM_lies (ct_M_lies (g := gA g aM) (s_M_lies hI qrM)) (by decide) rfl rfl rfl (by decide) dx ⟨by omega, by omega⟩ (fun v Mm1 hv => ?_)
  obtain ⟨rfl, hF, hL1, rfl⟩ := hq
  obtain ⟨rfl, hS, e0⟩ := hv
  exact tailI C h (by decide) e0 fO_I ⟨by omega, by omega⟩ (n_to rfl (by omega) (by omega) (K aC ext Mc1 Mm1 _ rfl (hJ.q hF hL1 hS) (Nat.le_add_right _ _)))
theorem lkH_must : Cond.methodLink RL 235 yL_must ∈ GW := gw 1091 (by decide +kernel) (by decide +kernel)
theorem meM_must : MeV yX12_must cX12_must 4 (some .boolean) 3 := ⟨⟨gw 116 (by decide +kernel) (by decide +kernel), gw 1921 (by decide +kernel) (by decide +kernel), by decide +kernel, by decide⟩, gw 1919 (by decide +kernel) (by decide +kernel), gw 1920 (by decide +kernel) (by decide +kernel)⟩
theorem lkM_must : Cond.methodLink RL 237 yX12_must ∈ GW := gw 1918 (by decide +kernel) (by decide +kernel)
theorem case_must {X : FX} {g : GT} {cL : ClassId} {A : Nat → Prop} {sk : Nat → Nat} {sb L : Nat} {sx : Nat → Int32} {kc ks : Nat} {Z : State → Prop} {n : Nat} {aM aC : Nat → Nat} {ext : List CD} {Mc Mm : Mem} {ao : Nat} {f : Nat → Int64} (C : CxL X g cL A sk sb L sx) (hL : L ≤ 3072) (hn : n + 5 < L) (hk : kc + 80 ≤ 601024 ∧ ks + 480 ≤ 7293034) (hJ : JI ext Mc Mm) (K : NX X g cL A sb kc ks Z n aM aC ext ao) : AtN X (g.1, g.2.1) (WS g aM aC ext Mc Mm ao cL f) A 7 kc ks Z 1567 (lvB n ao (aM 0) (aC 0) sb) [] := by
  have hD := hJ.1
  have hI := hJ.2.1
  have hW := hJ.2.2.1
  have h : segB code 1567 [(.aload_n 1, 1), (.aload_n 0, 1), (.iload 4, 2), (.iconst 1, 1), (.iadd, 1), (.iaload, 1), (.aload_n 0, 1), (.iload 4, 2), (.iconst 2, 1), (.iadd, 1), (.iaload, 1), (.aload_n 0, 1), (.iload 4, 2), (.iconst 3, 1), (.iadd, 1), (.iaload, 1), (.aload_n 3, 1), (.invokestatic 235, 3), (.istore 5, 2), (.aload_n 2, 1), (.aload_n 0, 1), (.iload 4, 2), (.iconst 1, 1), (.iadd, 1), (.iaload, 1), (.aload_n 0, 1), (.iload 4, 2), (.iconst 2, 1), (.iadd, 1), (.iaload, 1), (.aload_n 0, 1), (.iload 4, 2), (.iconst 3, 1), (.iadd, 1), (.iaload, 1), (.invokevirtual 237, 3), (.istore 6, 2), (.aload_n 2, 1), (.invokevirtual 165, 3), (.iload 5, 2), (.if_icmp .eq 5, 3), (.iconst 0, 1), (.ireturn, 1), (.iload 5, 2), (.ifCond .ne 22, 3), (.aload_n 3, 1), (.iconst 0, 1), (.laload, 1), (.iload 6, 2), (.ifCond .eq 7, 3), (.lconst 1, 1), (.goto 4, 3), (.lconst 0, 1), (.lcmp, 1), (.ifCond .eq 5, 3), (.iconst 0, 1), (.ireturn, 1), (.goto 1914, 3)] = true := by decide +kernel
  obtain ⟨dx, h⟩ := seg1 h
  refine n_aload_n C.1.1 dx rfl ?_
  refine l_arg C h (n := n) (j := 1) rfl rfl (by decide) (by omega) hL (fun h => ?_)
  refine l_arg C h (n := n) (j := 2) rfl rfl (by decide) (by omega) hL (fun h => ?_)
  refine l_arg C h (n := n) (j := 3) rfl rfl (by decide) (by omega) hL (fun h => ?_)
  obtain ⟨dx, h⟩ := seg1 h
  refine n_aload_n C.1.1 dx rfl ?_
  obtain ⟨dx, h⟩ := seg1 h
  refine l_stat C [.ref (aC 0), .int (sx (n + 1)), .int (sx (n + 2)), .int (sx (n + 3)), .ref ao] mh_must lkH_must (hc_must (g := gA g aC) (s_R_must hD hI hW (qx1 (cv := cvZ) hW))) (by decide) rfl rfl (by decide) dx ⟨by omega, by omega⟩ (fun k Mc1 f1 hq => ?_)
  obtain ⟨dx, h⟩ := seg1 h
  refine n_istore C.1.1 dx (by decide) rfl ?_
  obtain ⟨dx, h⟩ := seg1 h
  refine n_aload_n C.1.1 dx rfl ?_
  refine l_arg C h (n := n) (j := 1) rfl rfl (by decide) (by omega) hL (fun h => ?_)
  refine l_arg C h (n := n) (j := 2) rfl rfl (by decide) (by omega) hL (fun h => ?_)
  refine l_arg C h (n := n) (j := 3) rfl rfl (by decide) (by omega) hL (fun h => ?_)
  obtain ⟨dx, h⟩ := seg1 h
  refine l_R C [.int (sx (n + 1)), .int (sx (n + 2)), .int (sx (n + 3))] meM_must lkM_must (ct_M_must (g := gA g aM) (s_M_must hI qrM)) (by decide) rfl rfl rfl (by decide) dx ⟨by omega, by omega⟩ (fun v Mm1 hv => ?_)
  obtain ⟨rfl, hF, hL1, rfl⟩ := hq
  obtain ⟨rfl, hS, e0⟩ := hv
  exact tailZ C h (by decide) e0 fO_Z ⟨by omega, by omega⟩ (n_to rfl (by omega) (by omega) (K aC ext Mc1 Mm1 _ rfl (hJ.q hF hL1 hS) (Nat.le_add_right _ _)))
theorem lkH_next : Cond.methodLink RL 264 yL_next ∈ GW := gw 1288 (by decide +kernel) (by decide +kernel)
theorem meM_next : MeV yX12_next cX12_next 7 (some .int) 4 := ⟨⟨gw 116 (by decide +kernel) (by decide +kernel), gw 2038 (by decide +kernel) (by decide +kernel), by decide +kernel, by decide⟩, gw 2036 (by decide +kernel) (by decide +kernel), gw 2037 (by decide +kernel) (by decide +kernel)⟩
theorem lkM_next : Cond.methodLink RL 267 yX12_next ∈ GW := gw 2035 (by decide +kernel) (by decide +kernel)
theorem case_next {X : FX} {g : GT} {cL : ClassId} {A : Nat → Prop} {sk : Nat → Nat} {sb L : Nat} {sx : Nat → Int32} {kc ks : Nat} {Z : State → Prop} {n : Nat} {aM aC : Nat → Nat} {ext : List CD} {Mc Mm : Mem} {ao : Nat} {f : Nat → Int64} (C : CxL X g cL A sk sb L sx) (hL : L ≤ 3072) (hn : n + 5 < L) (hk : kc + 80 ≤ 601024 ∧ ks + 480 ≤ 7293034) (hJ : JI ext Mc Mm) (K : NX X g cL A sb kc ks Z n aM aC ext ao) : AtN X (g.1, g.2.1) (WS g aM aC ext Mc Mm ao cL f) A 7 kc ks Z 2361 (lvB n ao (aM 0) (aC 0) sb) [] := by
  have hD := hJ.1
  have hI := hJ.2.1
  have hW := hJ.2.2.1
  have h : segB code 2361 [(.aload_n 1, 1), (.aload_n 0, 1), (.iload 4, 2), (.iconst 1, 1), (.iadd, 1), (.iaload, 1), (.aload_n 0, 1), (.iload 4, 2), (.iconst 2, 1), (.iadd, 1), (.iaload, 1), (.aload_n 0, 1), (.iload 4, 2), (.iconst 3, 1), (.iadd, 1), (.iaload, 1), (.aload_n 0, 1), (.iload 4, 2), (.iconst 4, 1), (.iadd, 1), (.iaload, 1), (.aload_n 3, 1), (.invokestatic 264, 3), (.istore 5, 2), (.aload_n 2, 1), (.aload_n 0, 1), (.iload 4, 2), (.iconst 1, 1), (.iadd, 1), (.iaload, 1), (.aload_n 0, 1), (.iload 4, 2), (.iconst 2, 1), (.iadd, 1), (.iaload, 1), (.aload_n 0, 1), (.iload 4, 2), (.iconst 3, 1), (.iadd, 1), (.iaload, 1), (.aload_n 0, 1), (.iload 4, 2), (.iconst 4, 1), (.iadd, 1), (.iaload, 1), (.invokevirtual 267, 3), (.istore 6, 2), (.aload_n 2, 1), (.invokevirtual 165, 3), (.iload 5, 2), (.if_icmp .eq 5, 3), (.iconst 0, 1), (.ireturn, 1), (.iload 5, 2), (.ifCond .ne 15, 3), (.aload_n 3, 1), (.iconst 0, 1), (.laload, 1), (.iload 6, 2), (.i2l, 1), (.lcmp, 1), (.ifCond .eq 5, 3), (.iconst 0, 1), (.ireturn, 1), (.goto 1115, 3)] = true := by decide +kernel
  obtain ⟨dx, h⟩ := seg1 h
  refine n_aload_n C.1.1 dx rfl ?_
  refine l_arg C h (n := n) (j := 1) rfl rfl (by decide) (by omega) hL (fun h => ?_)
  refine l_arg C h (n := n) (j := 2) rfl rfl (by decide) (by omega) hL (fun h => ?_)
  refine l_arg C h (n := n) (j := 3) rfl rfl (by decide) (by omega) hL (fun h => ?_)
  refine l_arg C h (n := n) (j := 4) rfl rfl (by decide) (by omega) hL (fun h => ?_)
  obtain ⟨dx, h⟩ := seg1 h
  refine n_aload_n C.1.1 dx rfl ?_
  obtain ⟨dx, h⟩ := seg1 h
  refine l_stat C [.ref (aC 0), .int (sx (n + 1)), .int (sx (n + 2)), .int (sx (n + 3)), .int (sx (n + 4)), .ref ao] mh_next lkH_next (hc_next (g := gA g aC) (s_R_next hD hI hW (qx1 (cv := cvI) hW))) (by decide) rfl rfl (by decide) dx ⟨by omega, by omega⟩ (fun k Mc1 f1 hq => ?_)
  obtain ⟨dx, h⟩ := seg1 h
  refine n_istore C.1.1 dx (by decide) rfl ?_
  obtain ⟨dx, h⟩ := seg1 h
  refine n_aload_n C.1.1 dx rfl ?_
  refine l_arg C h (n := n) (j := 1) rfl rfl (by decide) (by omega) hL (fun h => ?_)
  refine l_arg C h (n := n) (j := 2) rfl rfl (by decide) (by omega) hL (fun h => ?_)
  refine l_arg C h (n := n) (j := 3) rfl rfl (by decide) (by omega) hL (fun h => ?_)
  refine l_arg C h (n := n) (j := 4) rfl rfl (by decide) (by omega) hL (fun h => ?_)
  obtain ⟨dx, h⟩ := seg1 h
  refine l_R C [.int (sx (n + 1)), .int (sx (n + 2)), .int (sx (n + 3)), .int (sx (n + 4))] meM_next lkM_next (ct_M_next (g := gA g aM) (s_M_next hI qrM)) (by decide) rfl rfl rfl (by decide) dx ⟨by omega, by omega⟩ (fun v Mm1 hv => ?_)
  obtain ⟨rfl, hF, hL1, rfl⟩ := hq
  obtain ⟨rfl, hS, e0⟩ := hv
  exact tailI C h (by decide) e0 fO_I ⟨by omega, by omega⟩ (n_to rfl (by omega) (by omega) (K aC ext Mc1 Mm1 _ rfl (hJ.q hF hL1 hS) (Nat.le_add_right _ _)))
theorem lkH_near : Cond.methodLink RL 302 yL_near ∈ GW := gw 1454 (by decide +kernel) (by decide +kernel)
theorem meM_near : MeV yX12_near cX12_near 8 (some .int) 3 := ⟨⟨gw 116 (by decide +kernel) (by decide +kernel), gw 2108 (by decide +kernel) (by decide +kernel), by decide +kernel, by decide⟩, gw 2106 (by decide +kernel) (by decide +kernel), gw 2107 (by decide +kernel) (by decide +kernel)⟩
theorem lkM_near : Cond.methodLink RL 304 yX12_near ∈ GW := gw 2105 (by decide +kernel) (by decide +kernel)
theorem case_near {X : FX} {g : GT} {cL : ClassId} {A : Nat → Prop} {sk : Nat → Nat} {sb L : Nat} {sx : Nat → Int32} {kc ks : Nat} {Z : State → Prop} {n : Nat} {aM aC : Nat → Nat} {ext : List CD} {Mc Mm : Mem} {ao : Nat} {f : Nat → Int64} (C : CxL X g cL A sk sb L sx) (hL : L ≤ 3072) (hn : n + 5 < L) (hk : kc + 80 ≤ 601024 ∧ ks + 480 ≤ 7293034) (hJ : JI ext Mc Mm) (K : NX X g cL A sb kc ks Z n aM aC ext ao) : AtN X (g.1, g.2.1) (WS g aM aC ext Mc Mm ao cL f) A 7 kc ks Z 3304 (lvB n ao (aM 0) (aC 0) sb) [] := by
  have hD := hJ.1
  have hI := hJ.2.1
  have hW := hJ.2.2.1
  have h : segB code 3304 [(.aload_n 1, 1), (.aload_n 0, 1), (.iload 4, 2), (.iconst 1, 1), (.iadd, 1), (.iaload, 1), (.aload_n 0, 1), (.iload 4, 2), (.iconst 2, 1), (.iadd, 1), (.iaload, 1), (.aload_n 0, 1), (.iload 4, 2), (.iconst 3, 1), (.iadd, 1), (.iaload, 1), (.aload_n 3, 1), (.invokestatic 302, 3), (.istore 5, 2), (.aload_n 2, 1), (.aload_n 0, 1), (.iload 4, 2), (.iconst 1, 1), (.iadd, 1), (.iaload, 1), (.aload_n 0, 1), (.iload 4, 2), (.iconst 2, 1), (.iadd, 1), (.iaload, 1), (.aload_n 0, 1), (.iload 4, 2), (.iconst 3, 1), (.iadd, 1), (.iaload, 1), (.invokevirtual 304, 3), (.istore 6, 2), (.aload_n 2, 1), (.invokevirtual 165, 3), (.iload 5, 2), (.if_icmp .eq 5, 3), (.iconst 0, 1), (.ireturn, 1), (.iload 5, 2), (.ifCond .ne 15, 3), (.aload_n 3, 1), (.iconst 0, 1), (.laload, 1), (.iload 6, 2), (.i2l, 1), (.lcmp, 1), (.ifCond .eq 5, 3), (.iconst 0, 1), (.ireturn, 1), (.goto 184, 3)] = true := by decide +kernel
  obtain ⟨dx, h⟩ := seg1 h
  refine n_aload_n C.1.1 dx rfl ?_
  refine l_arg C h (n := n) (j := 1) rfl rfl (by decide) (by omega) hL (fun h => ?_)
  refine l_arg C h (n := n) (j := 2) rfl rfl (by decide) (by omega) hL (fun h => ?_)
  refine l_arg C h (n := n) (j := 3) rfl rfl (by decide) (by omega) hL (fun h => ?_)
  obtain ⟨dx, h⟩ := seg1 h
  refine n_aload_n C.1.1 dx rfl ?_
  obtain ⟨dx, h⟩ := seg1 h
  refine l_stat C [.ref (aC 0), .int (sx (n + 1)), .int (sx (n + 2)), .int (sx (n + 3)), .ref ao] mh_near lkH_near (hc_near (g := gA g aC) (s_R_near hD hI hW (qx2 (cv := cvI) hW))) (by decide) rfl rfl (by decide) dx ⟨by omega, by omega⟩ (fun k Mc1 f1 hq => ?_)
  obtain ⟨dx, h⟩ := seg1 h
  refine n_istore C.1.1 dx (by decide) rfl ?_
  obtain ⟨dx, h⟩ := seg1 h
  refine n_aload_n C.1.1 dx rfl ?_
  refine l_arg C h (n := n) (j := 1) rfl rfl (by decide) (by omega) hL (fun h => ?_)
  refine l_arg C h (n := n) (j := 2) rfl rfl (by decide) (by omega) hL (fun h => ?_)
  refine l_arg C h (n := n) (j := 3) rfl rfl (by decide) (by omega) hL (fun h => ?_)
  obtain ⟨dx, h⟩ := seg1 h
  refine l_R C [.int (sx (n + 1)), .int (sx (n + 2)), .int (sx (n + 3))] meM_near lkM_near (ct_M_near (g := gA g aM) (s_M_near hI qrM)) (by decide) rfl rfl rfl (by decide) dx ⟨by omega, by omega⟩ (fun v Mm1 hv => ?_)
  obtain ⟨rfl, hF, hL1, rfl⟩ := hq
  obtain ⟨rfl, hS, e0⟩ := hv
  exact tailI C h (by decide) e0 fO_I ⟨by omega, by omega⟩ (n_to rfl (by omega) (by omega) (K aC ext Mc1 Mm1 _ rfl (hJ.q hF hL1 hS) (Nat.le_add_right _ _)))
