/-! THE LAW'S HELPER CLAIM -/
def yL_claim : MethodName := ⟨RL, "claim", "(LRainbowPlate;[J)I"⟩
abbrev hhK : List (Nat × Nat × Nat × Nat) := [(0, 8, 11, 13), (0, 8, 14, 23)]
def TL_claim : List (Nat × Instr × Nat) := [(0, .aload_n 1, 1), (1, .iconst 0, 1), (2, .aload_n 0, 1), (3, .invokevirtual 139, 3), (6, .i2l, 1), (7, .lastore, 1), (8, .goto 9, 3), (11, .astore_n 2, 1), (12, .iconst 1, 1), (13, .ireturn, 1), (14, .astore_n 2, 1), (15, .iconst 2, 1), (16, .ireturn, 1), (17, .iconst 0, 1), (18, .ireturn, 1)]
theorem tL_claim : tabOK method_38_code TL_claim = true := by decide +kernel
theorem mh_claim : MeH yL_claim method_38_code 3 hhK 2 := ⟨gw 104 (by decide +kernel) (by decide +kernel), gw 1464 (by decide +kernel) (by decide +kernel), by decide +kernel, by decide, gw 1463 (by decide +kernel) (by decide +kernel)⟩
theorem lkL_claim : Cond.methodLink RL 139 yX11_claim ∈ GW := gw 1465 (by decide +kernel) (by decide +kernel)
section CALLK
variable {X : FX} {g : GT} {cL : ClassId} {ext : List CD} {suf : va_W} {A : Nat → Prop} {b : ByteArray} {nL kc ks h nc ns : Nat} {own : String} {Z : State → Prop} {pc : Nat} {lv : List (Nat × Value)} {st : List Value} {M : Mem} {sk : Nat → Nat}
theorem h_callK (C : CxH X g cL A b nL own h nc ns sk) {idx : Nat} {Rest : Int32 → (Nat → Nat) → List CD → Mem → Prop} {ex : String → Mem → Prop} (hlk : Cond.methodLink own idx yX11_claim ∈ GW) (hct : XK X.2.1 g ext sk M Rest ex) (hh : 61 ≤ h) (hw : (st.map fun v => v.category).sum ≤ 8) (hd : decode b pc = .ok (.invokevirtual idx, 3)) (hk : kc + 80 ≤ nc ∧ ks + 6 * 80 ≤ ns)
    (hT : ThN X g (layC ++ ext) [] suf A nL (kc + 80) (ks + 6 * 80) Z pc lv st ex) (K : ∀ (r : Int32) (a : Nat → Nat) (ext1 : List CD) (M1 : Mem), Rest r a ext1 M1 → AtN X (g.1, g.2.1) (wl (gA g a) (layC ++ ext1) M1 ++ suf) A nL (kc + 80) (ks + 6 * 80) Z (pc + 3) lv (.int r :: st)) : AtN X (g.1, g.2.1) (wl g (layC ++ ext) M ++ suf) A nL kc ks Z pc lv (.ref (ad g 0) :: st) := by
  refine n_ws (ws2 := [] ++ wl g (layC ++ ext) M ++ suf) (by rw [List.nil_append]) ?_
  intro H locs ls hP hD hS hl
  have C' := toCxX C hD
  have hPw : wP g (layC ++ ext) M H := subP hP
  have hFc := cx_frees (M := M) C'.1 hS
  have hj := fun (w1 : va_W) (H1 : Heap) hk1 hB hD1 => fj (w1 := w1) (H1 := H1) hP hD (fun q hq => C.1.2.2.2.2.2.2.2.1 q (Nat.le_trans hS.1 hq)) hk1 hB hD1
  refine vx_calli (vx_runV (As := []) (rest := st) (cx_fix C'.1) (hct H.size) ⟨cxx_callB C' me_claim.1 hlk hh, C'.1.2.2.2.2.1 _ me_claim.2.1, C'.1.2.2.2.2.1 _ me_claim.2.2⟩ ⟨?_, va_recv C'.1.2.2.2.2.2.1 hPw (show vwCl[11]? = some (yX11_claim.cls, TX11, 8) from rfl) (wl_get (g := g) (M := M) lc0), fun U hU hW => ?_⟩ rfl rfl hl.size rfl (lv_room hw) hd ⟨Nat.le_trans hk.1 C.1.2.2.2.2.2.2.2.2.2.2.1, Nat.le_trans hk.2 C.1.2.2.2.2.2.2.2.2.2.2.2.1⟩) hS (fun q _ h => hFc q h) hFc (fun q _ h => hFc q h) (fun E ce q9 u t H1 locs1 ht hvm _ hB hz1 hk1 hS1 hq hv hc => ?_) (fun r u t H1 locs1 ht hvm hpost hB hz1 hk1 hS1 => ?_)
  · intro a U f mk q
    obtain ⟨q0, q1, ⟨qP, qK, qN, qD⟩, qT, qO⟩ := q
    exact ⟨q0, q1, ⟨qP, va_K.moved (u := U) (U := U.calling f mk a) (Vm.Alike.refl U.vm) qK, NW.same (s := U) (U := U.calling f mk a) rfl qN, qD⟩, TX.same (s := U) (U := U.calling f mk a) rfl qT, va_AO.moved (u := U) (U := U.calling f mk a) (Vm.Alike.refl U.vm) qO⟩
  · obtain ⟨z0, z1, z2, z3⟩ := cxx_pre C' hPw hS U hU hW
    exact ⟨z0, z1, z2, z3, va_AO.moved hW.alike C.1.2.2.2.2.2.2.2.2.2.2.2.2⟩
  · have h9 := hj (wl g (layC ++ ext) u) H1 hk1 (by rw [← ht]; exact hB.2) (dSame (subD hD) wl_addr)
    exact hT E u hB.1 H1 locs1 ls q9 ce h9.1 h9.2 hS1 hl hq hv hc
  · have h9 := hj (wl (gA g u.1) (layC ++ u.2.1) u.2.2) H1 hk1 (by rw [← ht]; exact hB.1) hB.2
    rw [List.nil_append] at h9
    exact K r u.1 u.2.1 u.2.2 hpost H1 locs1 ls h9.1 h9.2 hS1 hl
end CALLK
def HK (l : Launch) (g : GT) (ext : List CD) (sk : Nat → Nat) (ao : Nat) (cL : ClassId) (M : Mem) (f : Nat → Int64) (post : Int32 → (Nat → Nat) → List CD → Mem → (Nat → Int64) → Prop) : Prop :=
  ∀ sz, Met l yL_claim (.codeWith yL_claim method_38_code 3 (some .int) hhK :: GW) (rmX 61 80) (pcH l g (layC ++ ext) sk M ao cL f [.ref (ad g 0), .ref ao] sz)
    (va_Qi (fun r (u : (Nat → Nat) × List CD × Mem × (Nat → Int64)) => post r u.1 u.2.1 u.2.2.1 u.2.2.2) (fun u t => va_P (g.1, g.2.1) vwCl (wl (gA g u.1) (layC ++ u.2.1) u.2.2.1 ++ [(ao, ouE cL u.2.2.2)]) t.heap ∧ va_D (va_A (wl g (layC ++ ext) M ++ [(ao, ouE cL f)]) sz) (wl (gA g u.1) (layC ++ u.2.1) u.2.2.1 ++ [(ao, ouE cL u.2.2.2)])) (va_A (wl g (layC ++ ext) M ++ [(ao, ouE cL f)]) sz)) 80 (6 * 80) (va_A (wl g (layC ++ ext) M ++ [(ao, ouE cL f)]) sz)
def RetHK (X : FX) (g : GT) (ao : Nat) (cL : ClassId) (A : Nat → Prop) (Z : State → Prop) (post : Int32 → (Nat → Nat) → List CD → Mem → (Nat → Int64) → Prop) : Prop :=
  ∀ (v : Int32) (a : Nat → Nat) (ext : List CD) (M : Mem) (f : Nat → Int64) (pc : Nat) (lv : List (Nat × Value)), decode method_38_code pc = .ok (.ireturn, 1) → post v a ext M f → AtN X (g.1, g.2.1) (wl (gA g a) (layC ++ ext) M ++ [(ao, ouE cL f)]) A 3 80 (6 * 80) Z pc lv [.int v]
set_option maxHeartbeats 1000000 in
theorem hk_of {l : Launch} {g : GT} {ext : List CD} {sk : Nat → Nat} {ao : Nat} {cL : ClassId} {M : Mem} {f : Nat → Int64} {post : Int32 → (Nat → Nat) → List CD → Mem → (Nat → Int64) → Prop}
    (body : ∀ (X : FX) (A : Nat → Prop) (Z : State → Prop), X.2.1 = l → CxH X g cL A method_38_code 3 RL 61 80 (6 * 80) sk → X.2.2.2.2.2.2.2.2.2.exceptionTable.toList = tableOf hhK → RetHK X g ao cL A Z post → AtN X (g.1, g.2.1) (wl g (layC ++ ext) M ++ [(ao, ouE cL f)]) A 3 0 0 Z 0 (lv_args 0 [.ref (ad g 0), .ref ao]) []) : HK l g ext sk ao cL M f post := by
  intro sz
  refine met_ofWH (cc := method_38_code) (maxL := 3) (ret := (some .int)) (hh := hhK) (by decide) rfl ?_
  intro p e s m args below meth c s₁ B hml hv
  obtain ⟨rfl, hsz, hP, hD, hK, hN, hO, hNC, hTX⟩ := hv
  subst hsz
  have hx := B.exec
  have hb := B.bytes
  have hr := B.returns
  have hts := atoms_spec (ws := .codeWith yL_claim method_38_code 3 (some .int) hhK :: GW) B.pre
  have hown : s.vm.findClass RL = some m.cls := findClass_of_methodNamed B.named
  have htab := vx_table (x := yL_claim) B (hts _ List.mem_cons_self)
  have hD0 : va_D (va_A (wl g (layC ++ ext) M ++ [(ao, ouE cL f)]) s.heap.size) (wl g (layC ++ ext) M ++ [(ao, ouE cL f)]) := dSame hD rfl
  generalize hAe : va_A (wl g (layC ++ ext) M ++ [(ao, ouE cL f)]) s.heap.size = A at hTX hD0 ⊢
  have hA : ∀ q : Nat, s.heap.size ≤ q → A q := fun q h => by rw [← hAe]; exact Or.inr h
  have hl := lv_entry [.ref (ad g 0), .ref ao] (n := 3) (Nat.le_of_ble_eq_true rfl)
  rw [lg_entry_eq]
  generalize (lg_sl [.ref (ad g 0), .ref ao] ++ List.replicate (3 - (lg_sl [.ref (ad g 0), .ref ao]).length) Slot.unset).toArray = ls at hl ⊢
  refine body (p, l, e, _, s, m, _, below, meth, c) A _ rfl ⟨⟨hx, hb, hml, hown, fun w hw => hts w (List.mem_cons_of_mem _ hw), hK, hN, hA, Nat.le_refl _, Nat.le_refl _, Nat.le_refl _, Nat.le_refl _, hO⟩, hTX, hNC⟩ htab ?_ s.heap [] ls hP hD0 va_S.rf ⟨_, hl, fun i v hi => lookup_in _ hi⟩
  intro v a ext1 M1 f1 pc lv hd hpost H locs ls2 hP1 hD1 hS1 hl1
  exact W.iret (v := v) hx hb hr (fun t ht hW => ⟨⟨v, (a, ext1, M1, f1), rfl, hpost, by show va_P (g.1, g.2.1) vwCl (wl (gA g a) (layC ++ ext1) M1 ++ [(ao, ouE cL f1)]) t.heap ∧ _; rw [ht]; exact ⟨hP1, hD1⟩⟩, hS1.F ht⟩) hS1.2.2 hd

theorem hc_claim {l : Launch} {g : GT} {ext : List CD} {sk : Nat → Nat} {ao : Nat} {cL : ClassId} {M : Mem} {f : Nat → Int64} {post : Int32 → (Nat → Nat) → List CD → Mem → (Nat → Int64) → Prop} (hL : LyOK ext) (hlen : nC ext < 1000000) (h : P_R_claim g ext (fun r a ext1 M1 => post 0 a ext1 M1 (vp_updL f 0 (cvI r))) (fun E M1 => (E = IAE ∧ post 1 (ad g) ext M1 f) ∨ (E = UOE ∧ post 2 (ad g) ext M1 f)) M) : HK l g ext sk ao cL M f post := by
  refine hk_of ?_
  rintro X A Z rfl C hte RT
  refine n_aload_n C.1 (tk tL_claim 0 rfl) rfl ?_
  refine n_iconst C.1 0 (tk tL_claim 1 rfl) rfl ?_
  refine n_aload_n C.1 (tk tL_claim 2 rfl) rfl ?_
  refine h_callK C lkL_claim (ct_R_claim hL hlen h) (by decide) (Nat.le_of_ble_eq_true rfl) (tk tL_claim 3 rfl) ⟨Nat.le_of_ble_eq_true rfl, Nat.le_of_ble_eq_true rfl⟩ ?_ ?_
  · rintro E M1 (⟨rfl, hp⟩ | ⟨rfl, hp⟩) H locs ls q9 ce hP hD hS hl hq hv hc
    all_goals rw [List.nil_append] at hP hD
    · refine h_catch C hte (l1 := []) (l2 := [(0, 8, 14, 23)]) (x := (0, 8, 11, 13)) rfl (by nofun) (by decide) (by decide) cl_IAE ca_IAE hP hD hS hl hq hv hc ?_
      refine n_astore_n C.1 (tk tL_claim 7 rfl) (by decide) rfl ?_
      refine n_iconst C.1 1 (tk tL_claim 8 rfl) rfl ?_
      exact RT _ (ad g) ext M1 f _ _ (tk tL_claim 9 rfl) hp
    · refine h_catch C hte (l1 := [(0, 8, 11, 13)]) (l2 := []) (x := (0, 8, 14, 23)) rfl (by simp only [List.mem_cons, List.not_mem_nil, or_false, forall_eq_or_imp, forall_eq]; exact ⟨by decide, _, cl_IAE, C.2.2 _ in_UOE _ in_IAE (by decide)⟩) (by decide) (by decide) cl_UOE ca_UOE hP hD hS hl hq hv hc ?_
      refine n_astore_n C.1 (tk tL_claim 10 rfl) (by decide) rfl ?_
      refine n_iconst C.1 2 (tk tL_claim 11 rfl) rfl ?_
      exact RT _ (ad g) ext M1 f _ _ (tk tL_claim 12 rfl) hp
  · intro r a ext1 M1 hp
    refine n_i2l C.1 (tk tL_claim 4 rfl) ?_
    refine h_last C (ws := wl (gA g a) (layC ++ ext1) M1) (tk tL_claim 5 rfl) ?_
    refine n_goto C.1 17 (tk tL_claim 6 rfl) (by decide) ?_
    refine n_iconst C.1 0 (tk tL_claim 13 rfl) rfl ?_
    exact RT _ a ext1 M1 _ _ _ (tk tL_claim 14 rfl) hp
theorem h_statK {X : FX} {g g9 : GT} {cL : ClassId} {ext : List CD} {pre : va_W} {A : Nat → Prop} {b : ByteArray} {nL kc ks h nc ns : Nat} {own : String} {Z : State → Prop} {pc : Nat} {lv : List (Nat × Value)} {st : List Value} {M : Mem} {sk : Nat → Nat} (C : CxH X g9 cL A b nL own h nc ns sk) (hg : g = gA g9 (ad g)) {idx ao : Nat} {f : Nat → Int64} {Rest : Int32 → (Nat → Nat) → List CD → Mem → (Nat → Int64) → Prop} (hlk : Cond.methodLink own idx yL_claim ∈ GW) (hct : HK X.2.1 g ext sk ao cL M f Rest) (hhh : 62 ≤ h) (hw : (st.map fun v => v.category).sum ≤ 8) (hd : decode b pc = .ok (.invokestatic idx, 3)) (hk : kc + 80 ≤ nc ∧ ks + 6 * 80 ≤ ns)
    (K : ∀ (r : Int32) (a : Nat → Nat) (ext1 : List CD) (M1 : Mem) (f1 : Nat → Int64), Rest r a ext1 M1 f1 → AtN X (g9.1, g9.2.1) (pre ++ (wl (gA g a) (layC ++ ext1) M1 ++ [(ao, ouE cL f1)])) A nL (kc + 80) (ks + 6 * 80) Z (pc + 3) lv (.int r :: st)) : AtN X (g9.1, g9.2.1) (pre ++ (wl g (layC ++ ext) M ++ [(ao, ouE cL f)])) A nL kc ks Z pc lv (.ref ao :: .ref (ad g 0) :: st) := by
  have e1 : (g.1, g.2.1) = (g9.1, g9.2.1) := by rw [hg]
  have e2 : tys g = tys g9 := by rw [hg]
  intro H locs ls hP hD hS hl
  obtain ⟨h3, h4, h5, h6, h7⟩ := mh_claim
  have r1 := C.1.2.2.2.2.2.2.2.2.1
  have r2 := C.1.2.2.2.2.2.2.2.2.2.1
  have hP0 : va_P (g.1, g.2.1) vwCl (pre ++ (wl g (layC ++ ext) M ++ [(ao, ouE cL f)]) ++ []) H := by rw [List.append_nil, e1]; exact hP
  have hD0 : va_D A (pre ++ (wl g (layC ++ ext) M ++ [(ao, ouE cL f)]) ++ []) := by rw [List.append_nil]; exact hD
  have hFc : ∀ q, va_A (wl g (layC ++ ext) M ++ [(ao, ouE cL f)]) H.size q → A q := subA C.1.2.2.2.2.2.2.2.1 hD0 hS
  refine va_calli (vx_runSW (hh := hhK) (As := [.ref (ad g 0), .ref ao]) (rest := st) ⟨C.1.1, C.1.2.1, C.1.2.2.1, C.1.2.2.2.1, C.1.2.2.2.2.1⟩ (hct H.size) (vx_cwSW 2 C.1.2.2.2.2.1 (gw_goods (fun w hw => ?_)) rfl rfl rfl h5 ⟨by show 61 + 1 ≤ _; omega, by show 8 + (3 + 11) + 64 * 61 ≤ _; omega⟩) ⟨pcH_blind, fun U hU hW => ⟨rfl, by rw [hU], by rw [hU]; exact subP hP0, (subD hD0).weaken (fun _ _ _ _ => trivial), by rw [e1, e2]; exact va_K.moved hW.alike C.1.2.2.2.2.2.1, NW.warm hW C.1.2.2.2.2.2.2.1, va_AO.moved hW.alike C.1.2.2.2.2.2.2.2.2.2.2.2.2, NC.moved hW.alike C.2.2, by rw [hU]; exact ((C.2.1.kept hS.2.1).narrow hFc).warm hW⟩⟩ rfl rfl hl.size rfl (lv_room hw) hd ⟨Nat.le_trans hk.1 C.1.2.2.2.2.2.2.2.2.2.2.1, Nat.le_trans hk.2 C.1.2.2.2.2.2.2.2.2.2.2.2.1⟩) hS (fun q _ h => hFc q h) hFc (fun r u t H1 locs1 ht hvm hpost hB hz1 hk1 hS1 => ?_)
  · unfold va_wsS at hw
    rcases List.mem_append.mp hw with hw | hw
    · simp only [List.mem_cons, List.not_mem_nil, or_false] at hw
      rcases hw with rfl | rfl | rfl
      · exact hlk
      · exact h7
      · exact h3
    · rcases List.mem_cons.mp hw with rfl | hw
      · exact h4
      · exact hw
  · have hj := fj hP0 hD0 (fun q hq => C.1.2.2.2.2.2.2.2.1 q (Nat.le_trans hS.1 hq)) hk1 (w1 := wl (gA g u.1) (layC ++ u.2.1) u.2.2.1 ++ [(ao, ouE cL u.2.2.2)]) (by rw [← ht]; exact hB.1) hB.2
    rw [List.append_nil, e1] at hj
    exact K r u.1 u.2.1 u.2.2.1 u.2.2.2 hpost H1 locs1 ls hj.1 hj.2 hS1 hl

