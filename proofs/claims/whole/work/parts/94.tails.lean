/-! HOW A CASE OF THE LAW ENDS -/
theorem me_thrown : MeV yX12_thrown cX12_thrown 1 (some .int) 0 := ⟨⟨gw 116 (by decide +kernel) (by decide +kernel), gw 1653 (by decide +kernel) (by decide +kernel), by decide +kernel, by decide⟩, gw 1651 (by decide +kernel) (by decide +kernel), gw 1652 (by decide +kernel) (by decide +kernel)⟩
theorem lk_thrown : Cond.methodLink RL 165 yX12_thrown ∈ GW := gw 1650 (by decide +kernel) (by decide +kernel)
section TAILS
variable {X : FX} {g : GT} {cL : ClassId} {A : Nat → Prop} {sk : Nat → Nat} {sb L : Nat} {sx : Nat → Int32} {kc ks : Nat} {Z : State → Prop} {pc n : Nat} {aM aC : Nat → Nat} {ext : List CD} {Mc Mm : Mem} {ao : Nat} {f : Nat → Int64} {k v : Int32}
theorem t_thr (C : CxL X g cL A sk sb L sx) {lv : List (Nat × Value)} {st : List Value} {r : List (Instr × Nat)} (h : segB code pc ((.aload_n 2, 1) :: (.invokevirtual 165, 3) :: r) = true) (h2 : lv.lookup 2 = some (.ref (aM 0))) (hr : kc ≤ 601024 ∧ ks ≤ 7293034) (hw : (st.map fun v => v.category).sum ≤ 8) (K : segB code (pc + 4) r = true → AtN X (g.1, g.2.1) (WS g aM aC ext Mc Mm ao cL f) A 7 kc ks Z (pc + 4) lv (.int (Mm 0 0) :: st)) : AtN X (g.1, g.2.1) (WS g aM aC ext Mc Mm ao cL f) A 7 kc ks Z pc lv st := by
  obtain ⟨d0, h⟩ := seg1 h
  obtain ⟨d1, h⟩ := seg1 h
  refine n_aload_n C.1.1 d0 h2 (l_R C [] me_thrown lk_thrown (ct_M_thrown (post := fun r M1 => r = Mm 0 0 ∧ M1 = Mm) ⟨rfl, rfl⟩) (by decide) rfl rfl rfl hw d1 hr (fun r M1 e => ?_))
  rw [e.1, e.2]
  exact K h
/-- thrown() is what the helper answered -/
theorem tailV (C : CxL X g cL A sk sb L sx) {off : Int} (h : segB code pc [(.aload_n 2, 1), (.invokevirtual 165, 3), (.iload 5, 2), (.if_icmp .eq 5, 3), (.iconst 0, 1), (.ireturn, 1), (.goto off, 3)] = true) (ho : (pc : Int) + 11 + off = 3565) (hm : Mm 0 0 = k) (hr : kc ≤ 601024 ∧ ks ≤ 7293034)
    (K : AtN X (g.1, g.2.1) (WS g aM aC ext Mc Mm ao cL f) A 7 kc ks Z 3565 (lvB n ao (aM 0) (aC 0) sb) []) : AtN X (g.1, g.2.1) (WS g aM aC ext Mc Mm ao cL f) A 7 kc ks Z pc ((5, .int k) :: lvB n ao (aM 0) (aC 0) sb) [] := by
  refine t_thr C h rfl hr (by decide) (fun h => ?_)
  obtain ⟨d0, h⟩ := seg1 h
  obtain ⟨d1, h⟩ := seg1 h
  obtain ⟨d2, h⟩ := seg1 h
  obtain ⟨d3, h⟩ := seg1 h
  obtain ⟨d4, h⟩ := seg1 h
  refine n_iload C.1.1 d0 rfl ?_
  refine n_icmp_eq C.1.1 (pc + 4 + 2 + 3 + 1 + 1) d1 (by omega) (fun _ => ?_) (fun e => absurd hm e)
  exact n_goto C.1.1 3565 d4 (by omega) (n_drop rfl K)
theorem tailI (C : CxL X g cL A sk sb L sx) {off : Int} (h : segB code pc [(.istore 6, 2), (.aload_n 2, 1), (.invokevirtual 165, 3), (.iload 5, 2), (.if_icmp .eq 5, 3), (.iconst 0, 1), (.ireturn, 1), (.iload 5, 2), (.ifCond .ne 15, 3), (.aload_n 3, 1), (.iconst 0, 1), (.laload, 1), (.iload 6, 2), (.i2l, 1), (.lcmp, 1), (.ifCond .eq 5, 3), (.iconst 0, 1), (.ireturn, 1), (.goto off, 3)] = true) (ho : (pc : Int) + 30 + off = 3565) (hm : Mm 0 0 = k) (hf : k = 0 → f 0 = v.toInt64) (hr : kc ≤ 601024 ∧ ks ≤ 7293034)
    (K : AtN X (g.1, g.2.1) (WS g aM aC ext Mc Mm ao cL f) A 7 kc ks Z 3565 (lvB n ao (aM 0) (aC 0) sb) []) : AtN X (g.1, g.2.1) (WS g aM aC ext Mc Mm ao cL f) A 7 kc ks Z pc ((5, .int k) :: lvB n ao (aM 0) (aC 0) sb) [.int v] := by
  obtain ⟨d0, h⟩ := seg1 h
  refine n_istore C.1.1 d0 (by decide) rfl ?_
  refine t_thr C h rfl hr (by decide) (fun h => ?_)
  obtain ⟨d1, h⟩ := seg1 h
  obtain ⟨d2, h⟩ := seg1 h
  obtain ⟨d3, h⟩ := seg1 h
  obtain ⟨d4, h⟩ := seg1 h
  obtain ⟨d5, h⟩ := seg1 h
  obtain ⟨d6, h⟩ := seg1 h
  obtain ⟨d7, h⟩ := seg1 h
  obtain ⟨d8, h⟩ := seg1 h
  obtain ⟨d9, h⟩ := seg1 h
  obtain ⟨d10, h⟩ := seg1 h
  obtain ⟨d11, h⟩ := seg1 h
  obtain ⟨d12, h⟩ := seg1 h
  obtain ⟨d13, h⟩ := seg1 h
  obtain ⟨d14, h⟩ := seg1 h
  obtain ⟨d15, h⟩ := seg1 h
  obtain ⟨d16, h⟩ := seg1 h
  have KE : AtN X (g.1, g.2.1) (WS g aM aC ext Mc Mm ao cL f) A 7 kc ks Z (pc + 2 + 4 + 2 + 3 + 1 + 1 + 2 + 3 + 1 + 1 + 1 + 2 + 1 + 1 + 3 + 1 + 1) ((6, .int v) :: (5, .int k) :: lvB n ao (aM 0) (aC 0) sb) [] := n_goto C.1.1 3565 d16 (by omega) (n_drop rfl (n_drop rfl K))
  refine n_iload C.1.1 d1 rfl ?_
  refine n_icmp_eq C.1.1 (pc + 2 + 4 + 2 + 3 + 1 + 1) d2 (by omega) (fun _ => ?_) (fun e => absurd hm e)
  refine n_iload C.1.1 d5 rfl ?_
  refine n_if_ne C.1.1 (pc + 2 + 4 + 2 + 3 + 1 + 1 + 2 + 3 + 1 + 1 + 1 + 2 + 1 + 1 + 3 + 1 + 1) d6 (by omega) (fun _ => KE) (fun e => ?_)
  refine n_aload_n C.1.1 d7 rfl (n_iconst C.1.1 0 d8 rfl (l_lald C d9 (n_iload C.1.1 d10 rfl (n_i2l C.1.1 d11 (n_lcmp C.1.1 d12 ?_)))))
  rw [hf e, lgcmp0]
  exact n_if_eq C.1.1 (pc + 2 + 4 + 2 + 3 + 1 + 1 + 2 + 3 + 1 + 1 + 1 + 2 + 1 + 1 + 3 + 1 + 1) d13 (by omega) (fun _ => KE) (fun e => absurd rfl e)
theorem tailZ (C : CxL X g cL A sk sb L sx) {off : Int} (h : segB code pc [(.istore 6, 2), (.aload_n 2, 1), (.invokevirtual 165, 3), (.iload 5, 2), (.if_icmp .eq 5, 3), (.iconst 0, 1), (.ireturn, 1), (.iload 5, 2), (.ifCond .ne 22, 3), (.aload_n 3, 1), (.iconst 0, 1), (.laload, 1), (.iload 6, 2), (.ifCond .eq 7, 3), (.lconst 1, 1), (.goto 4, 3), (.lconst 0, 1), (.lcmp, 1), (.ifCond .eq 5, 3), (.iconst 0, 1), (.ireturn, 1), (.goto off, 3)] = true) (ho : (pc : Int) + 37 + off = 3565) (hm : Mm 0 0 = k) (hf : k = 0 → f 0 = cvZ v) (hr : kc ≤ 601024 ∧ ks ≤ 7293034)
    (K : AtN X (g.1, g.2.1) (WS g aM aC ext Mc Mm ao cL f) A 7 kc ks Z 3565 (lvB n ao (aM 0) (aC 0) sb) []) : AtN X (g.1, g.2.1) (WS g aM aC ext Mc Mm ao cL f) A 7 kc ks Z pc ((5, .int k) :: lvB n ao (aM 0) (aC 0) sb) [.int v] := by
  obtain ⟨d0, h⟩ := seg1 h
  refine n_istore C.1.1 d0 (by decide) rfl ?_
  refine t_thr C h rfl hr (by decide) (fun h => ?_)
  obtain ⟨d1, h⟩ := seg1 h
  obtain ⟨d2, h⟩ := seg1 h
  obtain ⟨d3, h⟩ := seg1 h
  obtain ⟨d4, h⟩ := seg1 h
  obtain ⟨d5, h⟩ := seg1 h
  obtain ⟨d6, h⟩ := seg1 h
  obtain ⟨d7, h⟩ := seg1 h
  obtain ⟨d8, h⟩ := seg1 h
  obtain ⟨d9, h⟩ := seg1 h
  obtain ⟨d10, h⟩ := seg1 h
  obtain ⟨d11, h⟩ := seg1 h
  obtain ⟨d12, h⟩ := seg1 h
  obtain ⟨d13, h⟩ := seg1 h
  obtain ⟨d14, h⟩ := seg1 h
  obtain ⟨d15, h⟩ := seg1 h
  obtain ⟨d16, h⟩ := seg1 h
  obtain ⟨d17, h⟩ := seg1 h
  obtain ⟨d18, h⟩ := seg1 h
  obtain ⟨d19, h⟩ := seg1 h
  have KE : AtN X (g.1, g.2.1) (WS g aM aC ext Mc Mm ao cL f) A 7 kc ks Z (pc + 2 + 4 + 2 + 3 + 1 + 1 + 2 + 3 + 1 + 1 + 1 + 2 + 3 + 1 + 3 + 1 + 1 + 3 + 1 + 1) ((6, .int v) :: (5, .int k) :: lvB n ao (aM 0) (aC 0) sb) [] := n_goto C.1.1 3565 d19 (by omega) (n_drop rfl (n_drop rfl K))
  refine n_iload C.1.1 d1 rfl ?_
  refine n_icmp_eq C.1.1 (pc + 2 + 4 + 2 + 3 + 1 + 1) d2 (by omega) (fun _ => ?_) (fun e => absurd hm e)
  refine n_iload C.1.1 d5 rfl ?_
  refine n_if_ne C.1.1 (pc + 2 + 4 + 2 + 3 + 1 + 1 + 2 + 3 + 1 + 1 + 1 + 2 + 3 + 1 + 3 + 1 + 1 + 3 + 1 + 1) d6 (by omega) (fun _ => KE) (fun e => ?_)
  have hf2 := hf e
  refine n_aload_n C.1.1 d7 rfl (n_iconst C.1.1 0 d8 rfl (l_lald C d9 (n_iload C.1.1 d10 rfl ?_)))
  have KF : AtN X (g.1, g.2.1) (WS g aM aC ext Mc Mm ao cL f) A 7 kc ks Z (pc + 2 + 4 + 2 + 3 + 1 + 1 + 2 + 3 + 1 + 1 + 1 + 2 + 3 + 1 + 3 + 1) ((6, .int v) :: (5, .int k) :: lvB n ao (aM 0) (aC 0) sb) [.long (cvZ v), .long (f 0)] := by
    refine n_lcmp C.1.1 d15 ?_
    rw [hf2, lgcmp0]
    exact n_if_eq C.1.1 (pc + 2 + 4 + 2 + 3 + 1 + 1 + 2 + 3 + 1 + 1 + 1 + 2 + 3 + 1 + 3 + 1 + 1 + 3 + 1 + 1) d16 (by omega) (fun _ => KE) (fun e => absurd rfl e)
  refine n_if_eq C.1.1 (pc + 2 + 4 + 2 + 3 + 1 + 1 + 2 + 3 + 1 + 1 + 1 + 2 + 3 + 1 + 3) d11 (by omega) (fun e => ?_) (fun e => ?_)
  · refine n_lconst C.1.1 0 d14 rfl ?_
    unfold cvZ at KF; rw [if_pos e] at KF
    exact KF
  · refine n_lconst C.1.1 1 d12 rfl (n_goto C.1.1 (pc + 2 + 4 + 2 + 3 + 1 + 1 + 2 + 3 + 1 + 1 + 1 + 2 + 3 + 1 + 3 + 1) d13 (by omega) ?_)
    unfold cvZ at KF; rw [if_neg e] at KF
    exact KF
theorem fO_I {q v : Int32} {f : Nat → Int64} : q = 0 → fO cvI q v f 0 = v.toInt64 := fun e => by unfold fO; rw [if_pos e]; rfl
theorem fO_Z {q v : Int32} {f : Nat → Int64} : q = 0 → fO cvZ q v f 0 = cvZ v := fun e => by unfold fO; rw [if_pos e]; rfl
end TAILS
