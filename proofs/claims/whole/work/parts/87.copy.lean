/-! ARRAYS.COPYOF AND A NEW CLAIM -/
section COPYN
variable {X : FX} {g : GT} {tyl : List (ClassId × FieldType)} {ws : va_W} {A : Nat → Prop} {b : ByteArray} {nL kc ks h nc ns : Nat} {own : String} {Z : State → Prop} {pc : Nat} {lv : List (Nat × Value)} {st : List Value}
theorem n_alen (C : CxN X (g.1, g.2.1) (tys g) A b nL own h nc ns) {a n : Nat} {f : Nat → Int32} {v : Int32} (q0 : Nat) (he : ws[q0]? = some (a, .inl (g.2.2.1 0, n, .inl f))) (hv : Int32.ofNat n = v) (hd : decode b pc = .ok (.arraylength, 1)) (K : AtN X (g.1, g.2.1) ws A nL kc ks Z (pc + 1) lv (.int v :: st)) : AtN X (g.1, g.2.1) ws A nL kc ks Z pc lv (.ref a :: st) := fun H locs ls hP hD hS hl =>
  va_alen C.1 C.2.1 C.2.2.2.2.2.1 hP q0 0 (x := (n, .inl f)) he (ty := .int) rfl hv hd (K H locs ls hP hD hS hl)
theorem n_copyi (C : CxN X (g.1, g.2.1) (tys g) A b nL own h nc ns) {a a0 n0 n1 idx : Nat} {f f2 : Nat → Int32} {n : Int32} (q0 q1 : Nat) (hlk : Cond.methodLink own idx arraycopyName ∈ GW) (hnat : Cond.native arraycopyName ∈ GW) (hst : Cond.static arraycopyName ∈ GW) (hin : Cond.initialized "java/lang/System" ∈ GW) (ha0 : ws[q0]? = some (a0, .inl (g.2.2.1 0, n0, .inl f))) (ha1 : ws[q1]? = some (a, .inl (g.2.2.1 0, n1, .inl f2))) (h3 : ¬ n < 0) (h4 : n.toNatClampNeg ≤ n0) (h5 : n.toNatClampNeg ≤ n1) (hh : 1 ≤ h) (hw : (st.map fun v => v.category).sum ≤ 8) (hd : decode b pc = .ok (.invokestatic idx, 3))
    (K : AtN X (g.1, g.2.1) (ws.set q1 (a, .inl (g.2.2.1 0, n1, .inl (va_cpy f f2 0 0 n.toNatClampNeg)))) A nL kc ks Z (pc + 3) lv st) : AtN X (g.1, g.2.1) ws A nL kc ks Z pc lv (.int n :: .int 0 :: .ref a :: .int 0 :: .ref a0 :: st) := by
  intro H locs ls hP hD hS hl
  have r1 := C.2.2.2.2.2.2.2.2.1
  have r2 := C.2.2.2.2.2.2.2.2.2.1
  have hnw : nativeFrameWords "java/lang/System" "arraycopy" 5 + 11 ≤ 50 := by decide
  have z0 : (0 : Int32).toNatClampNeg = 0 := by decide
  exact va_copyi (rest := st) (sp := 0) (dp := 0) C.1 C.2.1 (C.2.2.1.trans hl.size.symm) C.2.2.2.1 (C.2.2.2.2.1 _ hlk) (C.2.2.2.2.1 _ hnat) (C.2.2.2.2.1 _ hst) (C.2.2.2.2.1 _ hin) C.2.2.2.2.2.1 hP hD hS q0 q1 0 0 (ty := .int) ha0 ha1 rfl rfl rfl (by decide) (by decide) h3 (by rw [z0, Nat.zero_add]; exact h4) (by rw [z0, Nat.zero_add]; exact h5) (fun i _ => rfl) (Nat.le_trans hh r1) (by omega) hd (fun H1 locs1 hP1 hD1 hS1 => K H1 locs1 ls hP1 hD1 hS1 hl)
theorem n_clone (C : CxN X (g.1, g.2.1) (tys g) A b nL own h nc ns) {a n idx : Nat} {f : Nat → Int32} (q0 : Nat) (hlk : Cond.methodLink own idx ⟨"[I", "clone", "()Ljava/lang/Object;"⟩ ∈ GW) (hsm : Cond.sameMethod "[I" "java/lang/Object" "clone" "()Ljava/lang/Object;" ∈ GW) (hnat : Cond.native ⟨"java/lang/Object", "clone", "()Ljava/lang/Object;"⟩ ∈ GW) (hin : Cond.instanceMethod ⟨"java/lang/Object", "clone", "()Ljava/lang/Object;"⟩ ∈ GW) (hsel : Cond.selects "[I" ⟨"[I", "clone", "()Ljava/lang/Object;"⟩ ⟨"java/lang/Object", "clone", "()Ljava/lang/Object;"⟩ ∈ GW) (hca : Cond.castable "[I" "java/lang/Cloneable" ∈ NWs) (ha : ws[q0]? = some (a, .inl (g.2.2.1 0, n, .inl f))) (hh : 1 ≤ h) (hw : (st.map fun v => v.category).sum ≤ 8) (hkc : kc + 1 ≤ nc) (hks : ks + n ≤ ns) (hd : decode b pc = .ok (.invokevirtual idx, 3))
    (K : ∀ q : Nat, AtN X (g.1, g.2.1) (ws ++ [(q, .inl (g.2.2.1 0, n, .inl f))]) A nL (kc + 1) (ks + n) Z (pc + 3) lv (.ref q :: st)) : AtN X (g.1, g.2.1) ws A nL kc ks Z pc lv (.ref a :: st) := by
  intro H locs ls hP hD hS hl
  have r1 := C.2.2.2.2.2.2.2.2.1
  have r2 := C.2.2.2.2.2.2.2.2.2.1
  refine va_clone C.1 C.2.1 (C.2.2.1.trans hl.size.symm) C.2.2.2.1 (C.2.2.2.2.1 _ hlk) (C.2.2.2.2.1 _ hsm) (C.2.2.2.2.1 _ hnat) (C.2.2.2.2.1 _ hin) (C.2.2.2.2.1 _ hsel) (C.2.2.2.2.2.2.1 _ hca) C.2.2.2.2.2.1 hP hD hS C.2.2.2.2.2.2.2.1 q0 0 (x := (n, .inl f)) (ty := .int) ha rfl (C.2.2.2.2.2.1.2 0 (g.2.2.1 0, .int) rfl).2 ?_ (Nat.le_trans hh r1) (by omega) (Nat.le_trans hkc C.2.2.2.2.2.2.2.2.2.2.1) (Nat.le_trans hks C.2.2.2.2.2.2.2.2.2.2.2.1) hd (fun q H1 _ hP1 hD1 hS1 => K q H1 locs ls hP1 hD1 hS1 hl)
  exact va_fit (cA := g.2.2.1 0) (n := n) (F := fun j => .int (f j)) (fun i _ => rfl)
theorem n_castA (C : CxN X (g.1, g.2.1) (tys g) A b nL own h nc ns) {a n idx : Nat} {f : Nat → Int32} (q0 : Nat) (hlk : Cond.classLink own idx "[I" ∈ GW) (ha : ws[q0]? = some (a, .inl (g.2.2.1 0, n, .inl f))) (hd : decode b pc = .ok (.checkcast idx, 3)) (K : AtN X (g.1, g.2.1) ws A nL kc ks Z (pc + 3) lv (.ref a :: st)) : AtN X (g.1, g.2.1) ws A nL kc ks Z pc lv (.ref a :: st) := fun H locs ls hP hD hS hl =>
  va_castA C.1 C.2.1 C.2.2.2.1 (C.2.2.2.2.1 _ hlk) hP q0 (x := (n, .inl f)) ha (C.2.2.2.2.2.1.2 0 (g.2.2.1 0, .int) rfl).2 hd (K H locs ls hP hD hS hl)
theorem n_statI0 (C : CxN X (g.1, g.2.1) (tys g) A b nL own h nc ns) {y : MethodName} {bb : ByteArray} {mL n idx h2 : Nat} {ret : Option FieldType} {stk : List Value} (As : List Value) {M : Mem} {Rest : Int32 → Mem → Prop} (hy : MeS y bb mL ret n) (hlk : Cond.methodLink own idx y ∈ GW) (hct : CI X.2.1 g [] y bb mL ret h2 As M Rest) (hh : h2 + 1 ≤ h) (hstk : stk = As.reverse ++ st) (hn : As.length = n) (hw : (st.map fun v => v.category).sum ≤ 8) (hd : decode b pc = .ok (.invokestatic idx, 3)) (hr : kc ≤ nc ∧ ks ≤ ns) (K : ∀ (r : Int32) (M1 : Mem), Rest r M1 → AtN X (g.1, g.2.1) ws A nL kc ks Z (pc + 3) lv (.int r :: st)) : AtN X (g.1, g.2.1) ws A nL kc ks Z pc lv stk := by
  subst hstk
  intro H locs ls hP hD hS hl
  obtain ⟨c1, c2, c3, c4, c5, c6, c7, c8, c9, c10, c11, c12, c13⟩ := C
  have C' : Cx X g [] A b nL own h := ⟨c1, c2, c3, c4, c5, c6, c7, ⟨fun i j hi => absurd hi (Nat.not_lt_zero _), fun k hk => absurd hk (Nat.not_lt_zero _)⟩, c8, c9, c10⟩
  have hP0 : wP g [] M H := vp_iff.mpr (fun q hq => absurd hq (List.not_mem_nil))
  have hFc := cx_frees (M := M) C' hS
  refine va_calli (va_runS (As := As) (rest := st) (cx_fix C') (hct H.size) ⟨cx_callB C' hy.1 hlk hh, C'.2.2.2.2.1 _ hy.2⟩ ⟨pcW_blind, cx_pre C' hP0⟩ rfl hn hl.size rfl (lv_room hw) hd ⟨Nat.le_trans hr.1 c11, Nat.le_trans hr.2 c12⟩) hS (fun q _ h => hFc q h) hFc (fun r u t H1 locs1 ht hvm hpost hB hz1 hk1 hS1 => ?_)
  have hj := fj (pre := ws) (w := []) (suf := []) (w1 := []) (by rw [List.append_nil, List.append_nil]; exact hP) (by rw [List.append_nil, List.append_nil]; exact hD) (fun q hq => c8 q (Nat.le_trans hS.1 hq)) hk1 (by rw [← ht]; exact hB) (vd_iff.mpr ⟨List.nodup_nil, fun q hq => absurd hq (List.not_mem_nil)⟩)
  rw [List.append_nil, List.append_nil] at hj
  exact K r u hpost H1 locs1 ls hj.1 hj.2 hS1 hl
end COPYN
theorem cp_min : Cond.methodLink RJ7 304 yJ9_min_7cf53 ∈ GW := gw 1623 (by decide +kernel) (by decide +kernel)
theorem cp_ac : Cond.methodLink RJ7 150 arraycopyName ∈ GW := gw 1624 (by decide +kernel) (by decide +kernel)
theorem cp_nat : Cond.native arraycopyName ∈ GW := gw 1626 (by decide +kernel) (by decide +kernel)
theorem cp_st : Cond.static arraycopyName ∈ GW := gw 1625 (by decide +kernel) (by decide +kernel)
theorem cp_in : Cond.initialized "java/lang/System" ∈ GW := gw 132 (by decide +kernel) (by decide +kernel)
theorem cl_lk : Cond.methodLink RJ7 316 ⟨"[I", "clone", "()Ljava/lang/Object;"⟩ ∈ GW := gw 1616 (by decide +kernel) (by decide +kernel)
theorem cl_sm : Cond.sameMethod "[I" "java/lang/Object" "clone" "()Ljava/lang/Object;" ∈ GW := gw 1617 (by decide +kernel) (by decide +kernel)
theorem cl_nat : Cond.native ⟨"java/lang/Object", "clone", "()Ljava/lang/Object;"⟩ ∈ GW := gw 1618 (by decide +kernel) (by decide +kernel)
theorem cl_in : Cond.instanceMethod ⟨"java/lang/Object", "clone", "()Ljava/lang/Object;"⟩ ∈ GW := gw 1619 (by decide +kernel) (by decide +kernel)
theorem cl_sel : Cond.selects "[I" ⟨"[I", "clone", "()Ljava/lang/Object;"⟩ ⟨"java/lang/Object", "clone", "()Ljava/lang/Object;"⟩ ∈ GW := gw 1620 (by decide +kernel) (by decide +kernel)
theorem cl_ca : Cond.castable "[I" "java/lang/Cloneable" ∈ NWs := List.mem_filter.mpr ⟨List.mem_of_getElem? (i := 1621) (by decide +kernel), rfl⟩
theorem cl_cl : Cond.classLink RJ7 317 "[I" ∈ GW := gw 1622 (by decide +kernel) (by decide +kernel)
theorem me_copy : MeS yJ7_copyOf_59c91 cJ7_copyOf_59c91 3 (some (.array .int)) 2 := ⟨⟨gw 123 (by decide +kernel) (by decide +kernel), gw 1615 (by decide +kernel) (by decide +kernel), by decide +kernel, by decide⟩, gw 1614 (by decide +kernel) (by decide +kernel)⟩
def T_copyL : List (Nat × Instr × Nat) := [(0, .iload_n 1, 1), (1, .aload_n 0, 1), (2, .arraylength, 1), (3, .if_icmp .ne 11, 3), (6, .aload_n 0, 1), (7, .invokevirtual 316, 3), (10, .checkcast 317, 3), (13, .areturn, 1), (14, .iload_n 1, 1), (15, .newarray .int, 2), (17, .astore_n 2, 1), (18, .aload_n 0, 1), (19, .iconst 0, 1), (20, .aload_n 2, 1), (21, .iconst 0, 1), (22, .aload_n 0, 1), (23, .arraylength, 1), (24, .iload_n 1, 1), (25, .invokestatic 304, 3), (28, .invokestatic 150, 3), (31, .aload_n 2, 1), (32, .areturn, 1)]
theorem T_copy : tabOK cJ7_copyOf_59c91 T_copyL = true := by decide +kernel
theorem me_clm : MeB yX1_init cX1_init 3 none 2 := ⟨gw 131 (by decide +kernel) (by decide +kernel), gw 1611 (by decide +kernel) (by decide +kernel), by decide +kernel, by decide⟩
theorem mi_clm : Cond.instanceMethod yX1_init ∈ GW := gw 1610 (by decide +kernel) (by decide +kernel)
def T_clmL : List (Nat × Instr × Nat) := [(0, .aload_n 0, 1), (1, .invokespecial 3, 3), (4, .aload_n 0, 1), (5, .aload_n 1, 1), (6, .iload_n 2, 1), (7, .invokestatic 9, 3), (10, .putfield 15, 3), (13, .return_, 1)]
theorem T_clm : tabOK cX1_init T_clmL = true := by decide +kernel
theorem lk_clm_obj : Cond.methodLink RX1 3 Lib.objectInit ∈ GW := gw 1612 (by decide +kernel) (by decide +kernel)
theorem lk_clm_cp : Cond.methodLink RX1 9 yJ7_copyOf_59c91 ∈ GW := gw 1613 (by decide +kernel) (by decide +kernel)
abbrev pcL (g : GT) (ws : va_W) (vs : List Value) (sz : Nat) : Array Value → State → Prop :=
  va_Pc vs (fun U => U.heap.size = sz ∧ va_P (g.1, g.2.1) vwCl ws U.heap ∧ va_D (fun _ => True) ws ∧ va_K (g.1, g.2.1) vwCl (tys g) U ∧ NW U ∧ va_AO RX1 U)
theorem pcL_blind {g : GT} {ws : va_W} {vs : List Value} {sz : Nat} : FrameBlind (pcL g ws vs sz) := fun a U f mk q => by
  obtain ⟨q0, q1, qP, qD, qK, qN, qO⟩ := q
  exact ⟨q0, q1, qP, qD, va_K.moved (u := U) (U := U.calling f mk a) (Vm.Alike.refl U.vm) qK, NW.same (s := U) (U := U.calling f mk a) rfl qN, va_AO.moved (u := U) (U := U.calling f mk a) (Vm.Alike.refl U.vm) qO⟩
def LR (l : Launch) (g : GT) (y : MethodName) (bb : ByteArray) (mL h nc ns : Nat) (ws : va_W) (vs : List Value) {S : Type} (post : S → Prop) (Wf : S → Nat → va_W) : Prop :=
  ∀ sz, Met l y (.code y bb mL (some (.array .int)) :: GW) { frames := h, cells := nc, slots := ns, locals := 64 * h } (pcL g ws vs sz) (va_Qr post (fun u a t => va_P (g.1, g.2.1) vwCl (Wf u a) t.heap ∧ va_D (va_A ws sz) (Wf u a)) (va_A ws sz)) nc ns (va_A ws sz)
def LV (l : Launch) (g : GT) (y : MethodName) (bb : ByteArray) (mL h nc ns : Nat) (ws : va_W) (vs : List Value) {S : Type} (post : S → Prop) (Wf : S → va_W) : Prop :=
  ∀ sz, Met l y (.code y bb mL none :: GW) { frames := h, cells := nc, slots := ns, locals := 64 * h } (pcL g ws vs sz) (va_Qv post (fun u t => va_P (g.1, g.2.1) vwCl (Wf u) t.heap ∧ va_D (va_A ws sz) (Wf u)) (va_A ws sz)) nc ns (va_A ws sz)
set_option maxHeartbeats 1000000 in
theorem lr_of {l : Launch} {g : GT} {y : MethodName} {bb : ByteArray} {mL h nc ns : Nat} {ws : va_W} {vs : List Value} {S : Type} {post : S → Prop} {Wf : S → Nat → va_W} (hy : plainFor y = true) (hc : (lg_sl vs).length ≤ mL)
    (body : ∀ (X : FX) (A : Nat → Prop) (Z : State → Prop), X.2.1 = l → CxN X (g.1, g.2.1) (tys g) A bb mL y.cls h nc ns → (∀ (u : S) (a pc : Nat) (lv : List (Nat × Value)), decode bb pc = .ok (.areturn, 1) → post u → AtN X (g.1, g.2.1) (Wf u a) A mL nc ns Z pc lv [.ref a]) → AtN X (g.1, g.2.1) ws A mL 0 0 Z 0 (lv_args 0 vs) []) : LR l g y bb mL h nc ns ws vs post Wf := by
  intro sz
  refine met_ofW (cc := bb) (maxL := mL) (ret := some (.array .int)) hy rfl ?_
  intro p e s m args below meth c s₁ B hml hv
  obtain ⟨rfl, hsz, hP, hD, hK, hNW, hO⟩ := hv
  subst hsz
  have hx := B.exec
  have hb := B.bytes
  have hr := B.returns
  have hts := atoms_spec (ws := .code y bb mL (some (.array .int)) :: GW) B.pre
  have hown : s.vm.findClass y.cls = some m.cls := findClass_of_methodNamed B.named
  have hD0 : va_D (va_A ws s.heap.size) ws := dSame hD rfl
  generalize hAe : va_A ws s.heap.size = A at hD0 ⊢
  have hA : ∀ q : Nat, s.heap.size ≤ q → A q := fun q h => by rw [← hAe]; exact Or.inr h
  have hl := lv_entry vs (n := mL) hc
  rw [lg_entry_eq]
  generalize (lg_sl vs ++ List.replicate (mL - (lg_sl vs).length) Slot.unset).toArray = ls at hl ⊢
  refine body (p, l, e, _, s, m, _, below, meth, c) A _ rfl ⟨hx, hb, hml, hown, fun w hw => hts w (List.mem_cons_of_mem _ hw), hK, hNW, hA, Nat.le_refl _, Nat.le_refl _, Nat.le_refl _, Nat.le_refl _, hO⟩ ?_ s.heap [] ls hP hD0 va_S.rf ⟨_, hl, fun i v hi => lookup_in _ hi⟩
  intro u a pc lv hd hu H locs ls2 hP1 hD1 hS1 hl1
  exact W.aret (v := .ref a) hx hb hr (Or.inr ⟨_, rfl⟩) (Or.inr ⟨a, rfl⟩) (fun t ht hW => ⟨⟨u, a, rfl, hu, by show va_P _ vwCl _ t.heap ∧ _; rw [ht]; exact ⟨hP1, hD1⟩⟩, hS1.F ht⟩) hS1.2.2 hd
set_option maxHeartbeats 1000000 in
theorem lv_of2 {l : Launch} {g : GT} {y : MethodName} {bb : ByteArray} {mL h nc ns : Nat} {ws : va_W} {vs : List Value} {S : Type} {post : S → Prop} {Wf : S → va_W} (hy : plainFor y = true) (hyn : y.name = "<init>") (hc : (lg_sl vs).length ≤ mL)
    (body : ∀ (X : FX) (A : Nat → Prop) (Z : State → Prop), X.2.1 = l → CxN X (g.1, g.2.1) (tys g) A bb mL y.cls h nc ns → X.2.2.2.2.2.2.2.2.1.name = "<init>" → (∀ (u : S) (pc : Nat) (lv : List (Nat × Value)), decode bb pc = .ok (.return_, 1) → post u → AtN X (g.1, g.2.1) (Wf u) A mL nc ns Z pc lv []) → AtN X (g.1, g.2.1) ws A mL 0 0 Z 0 (lv_args 0 vs) []) : LV l g y bb mL h nc ns ws vs post Wf := by
  intro sz
  refine met_ofW (cc := bb) (maxL := mL) (ret := none) hy rfl ?_
  intro p e s m args below meth c s₁ B hml hv
  obtain ⟨rfl, hsz, hP, hD, hK, hNW, hO⟩ := hv
  subst hsz
  have hx := B.exec
  have hb := B.bytes
  have hr := B.returns
  have hts := atoms_spec (ws := .code y bb mL none :: GW) B.pre
  have hown : s.vm.findClass y.cls = some m.cls := findClass_of_methodNamed B.named
  have hmn : meth.name = "<init>" := (name_of_methodNamed B.named B.method).1.trans hyn
  have hD0 : va_D (va_A ws s.heap.size) ws := dSame hD rfl
  generalize hAe : va_A ws s.heap.size = A at hD0 ⊢
  have hA : ∀ q : Nat, s.heap.size ≤ q → A q := fun q h => by rw [← hAe]; exact Or.inr h
  have hl := lv_entry vs (n := mL) hc
  rw [lg_entry_eq]
  generalize (lg_sl vs ++ List.replicate (mL - (lg_sl vs).length) Slot.unset).toArray = ls at hl ⊢
  refine body (p, l, e, _, s, m, _, below, meth, c) A _ rfl ⟨hx, hb, hml, hown, fun w hw => hts w (List.mem_cons_of_mem _ hw), hK, hNW, hA, Nat.le_refl _, Nat.le_refl _, Nat.le_refl _, Nat.le_refl _, hO⟩ hmn ?_ s.heap [] ls hP hD0 va_S.rf ⟨_, hl, fun i v hi => lookup_in _ hi⟩
  intro u pc lv hd hu H locs ls2 hP1 hD1 hS1 hl1
  exact W.vret hx hb hr (fun t ht hW => ⟨⟨u, rfl, hu, by show va_P _ vwCl _ t.heap ∧ _; rw [ht]; exact ⟨hP1, hD1⟩⟩, hS1.F ht⟩) hS1.2.2 hd
section CALLL
variable {X : FX} {g : GT} {ws : va_W} {A : Nat → Prop} {b : ByteArray} {nL kc ks h nc ns : Nat} {own : String} {Z : State → Prop} {pc : Nat} {lv : List (Nat × Value)} {st : List Value}
theorem l_pre (C : CxN X (g.1, g.2.1) (tys g) A b nL own h nc ns) {vs : List Value} {H : Heap} (hP : va_P (g.1, g.2.1) vwCl ws H) (hD : va_D A ws) : ∀ U : State, U.heap = H → (xs X).WarmedH U.vm → pcL g ws vs H.size vs.toArray U := fun U hU hW =>
  ⟨rfl, by rw [hU], by rw [hU]; exact hP, hD.weaken (fun _ _ _ _ => trivial), va_K.moved hW.alike C.2.2.2.2.2.1, NW.warm hW C.2.2.2.2.2.2.1, va_AO.moved hW.alike C.2.2.2.2.2.2.2.2.2.2.2.2⟩
theorem l_free (C : CxN X (g.1, g.2.1) (tys g) A b nL own h nc ns) {H : Heap} {locs : List Loc} (hD : va_D A ws) (hS : va_S A (xs X).heap H locs) : ∀ q, va_A ws H.size q → A q := by
  intro q hq
  rcases va_A_iff.mp hq with h1 | h1
  · obtain ⟨x, hx, e⟩ := List.mem_map.mp h1
    rw [← e]
    exact (vd_iff.mp hD).2 x hx
  · exact C.2.2.2.2.2.2.2.1 q (Nat.le_trans hS.1 h1)
theorem n_callLR (C : CxN X (g.1, g.2.1) (tys g) A b nL own h nc ns) {y : MethodName} {bb : ByteArray} {mL n idx h2 nc2 ns2 : Nat} {stk : List Value} (As : List Value) {S : Type} {post : S → Prop} {Wf : S → Nat → va_W} (hy : MeS y bb mL (some (.array .int)) n) (hlk : Cond.methodLink own idx y ∈ GW) (hct : LR X.2.1 g y bb mL h2 nc2 ns2 ws As post Wf) (hh : h2 + 1 ≤ h) (hstk : stk = As.reverse ++ st) (hn : As.length = n) (hw : (st.map fun v => v.category).sum ≤ 8) (hkc : kc + nc2 ≤ nc) (hks : ks + ns2 ≤ ns) (hd : decode b pc = .ok (.invokestatic idx, 3)) (K : ∀ (u : S) (a : Nat), post u → AtN X (g.1, g.2.1) (Wf u a) A nL (kc + nc2) (ks + ns2) Z (pc + 3) lv (.ref a :: st)) : AtN X (g.1, g.2.1) ws A nL kc ks Z pc lv stk := by
  subst hstk
  intro H locs ls hP hD hS hl
  have hFc := l_free C hD hS
  obtain ⟨⟨h3, h4, h5, h6⟩, h7⟩ := hy
  have r1 := C.2.2.2.2.2.2.2.2.1
  have r2 := C.2.2.2.2.2.2.2.2.2.1
  exact va_callr (va_runS (As := As) (rest := st) ⟨C.1, C.2.1, C.2.2.1, C.2.2.2.1, C.2.2.2.2.1⟩ (hct H.size) ⟨callB_of n C.2.2.2.2.1 (gw_good0 h4) rfl rfl rfl (C.2.2.2.2.1 _ h3) (C.2.2.2.2.1 _ hlk) h5 ⟨by show h2 + 1 ≤ _; omega, by show 8 + (mL + 11) + 64 * h2 ≤ _; omega⟩, C.2.2.2.2.1 _ h7⟩ ⟨pcL_blind, l_pre C hP hD⟩ rfl hn hl.size rfl (lv_room hw) hd ⟨Nat.le_trans hkc C.2.2.2.2.2.2.2.2.2.2.1, Nat.le_trans hks C.2.2.2.2.2.2.2.2.2.2.2.1⟩) hS (fun q _ h => hFc q h) hFc (fun u ra t H1 locs1 ht hvm hpost hB hz1 hk1 hS1 => K u ra hpost H1 locs1 ls (by rw [← ht]; exact hB.1) (vd_iff.mpr ⟨(vd_iff.mp hB.2).1, fun q hq => hFc _ ((vd_iff.mp hB.2).2 q hq)⟩) hS1 hl)
theorem n_callLV (C : CxN X (g.1, g.2.1) (tys g) A b nL own h nc ns) {y : MethodName} {bb : ByteArray} {mL n idx h2 nc2 ns2 q : Nat} {stk : List Value} (As : List Value) {S : Type} {post : S → Prop} {Wf : S → va_W} (hy : MeB y bb mL none n) (hyi : Cond.instanceMethod y ∈ GW) (hyn : y.name = "<init>") (hlk : Cond.methodLink own idx y ∈ GW) (hct : LV X.2.1 g y bb mL h2 nc2 ns2 ws (.ref q :: As) post Wf) (hh : h2 + 1 ≤ h) (hstk : stk = As.reverse ++ .ref q :: st) (hn : As.length = n) (hw : (st.map fun v => v.category).sum ≤ 8) (hkc : kc + nc2 ≤ nc) (hks : ks + ns2 ≤ ns) (hd : decode b pc = .ok (.invokespecial idx, 3)) (K : ∀ (u : S), post u → AtN X (g.1, g.2.1) (Wf u) A nL (kc + nc2) (ks + ns2) Z (pc + 3) lv st) : AtN X (g.1, g.2.1) ws A nL kc ks Z pc lv stk := by
  subst hstk
  intro H locs ls hP hD hS hl
  have hFc := l_free C hD hS
  obtain ⟨h3, h4, h5, h6⟩ := hy
  have r1 := C.2.2.2.2.2.2.2.2.1
  have r2 := C.2.2.2.2.2.2.2.2.2.1
  exact va_callv (va_runI (As := As) (rest := st) ⟨C.1, C.2.1, C.2.2.1, C.2.2.2.1, C.2.2.2.2.1⟩ (hct H.size) ⟨callB_of n C.2.2.2.2.1 (gw_good0 h4) rfl rfl rfl (C.2.2.2.2.1 _ h3) (C.2.2.2.2.1 _ hlk) h5 ⟨by show h2 + 1 ≤ _; omega, by show 8 + (mL + 11) + 64 * h2 ≤ _; omega⟩, hyn, C.2.2.2.2.1 _ hyi⟩ ⟨pcL_blind, l_pre C hP hD⟩ rfl hn hl.size rfl (lv_room hw) hd ⟨Nat.le_trans hkc C.2.2.2.2.2.2.2.2.2.2.1, Nat.le_trans hks C.2.2.2.2.2.2.2.2.2.2.2.1⟩) hS (fun q _ h => hFc q h) hFc (fun u t H1 locs1 ht hvm hpost hB hz1 hk1 hS1 => K u hpost H1 locs1 ls (by rw [← ht]; exact hB.1) (vd_iff.mpr ⟨(vd_iff.mp hB.2).1, fun q hq => hFc _ ((vd_iff.mp hB.2).2 q hq)⟩) hS1 hl)
end CALLL
/-- a copy of the first kn of the ints at src -/
theorem cc_copy {l : Launch} {g : GT} {ws : va_W} {src : Nat} {f : Nat → Int32} {k : Int32} {kn N : Nat} (q0 : Nat) (he : ws[q0]? = some (src, .inl (g.2.2.1 0, N, .inl f))) (hk : k = nI kn) (hkN : kn ≤ N) (hN : N ≤ 400) :
    LR l g yJ7_copyOf_59c91 cJ7_copyOf_59c91 3 2 1 400 ws [.ref src, .int k] (fun u : Nat → Int32 => ∀ j, j < kn → u j = f j) (fun u a => ws ++ [(a, .inl (g.2.2.1 0, kn, .inl u))]) := by
  have hkn : k.toNatClampNeg = kn := by rw [hk]; exact nI_clamp (by omega)
  have hk0 : ¬ k < 0 := by rw [hk]; rw [ltI, nI_toI (by omega)]; show ¬ ((kn : Int) < 0); omega
  refine lr_of (by decide) (Nat.le_of_ble_eq_true rfl) ?_
  rintro X A Z rfl C RT
  refine n_iload_n C (tk T_copy 0 rfl) rfl ?_
  refine n_aload_n C (tk T_copy 1 rfl) rfl ?_
  refine n_alen C q0 he (v := nI N) rfl (tk T_copy 2 rfl) ?_
  refine n_icmp_ne C 14 (tk T_copy 3 rfl) (by decide) (fun e => ?_) (fun e => ?_)
  · refine n_iload_n C (tk T_copy 8 rfl) rfl ?_
    refine n_newaI C (N' := kn) ar_I hk0 hkn (by omega) (by omega) (by omega) (tk T_copy 9 rfl) (fun q => ?_)
    refine n_astore_n C (tk T_copy 10 rfl) (by decide) rfl ?_
    refine n_aload_n C (tk T_copy 11 rfl) rfl ?_
    refine n_iconst C 0 (tk T_copy 12 rfl) rfl ?_
    refine n_aload_n C (tk T_copy 13 rfl) rfl ?_
    refine n_iconst C 0 (tk T_copy 14 rfl) rfl ?_
    refine n_aload_n C (tk T_copy 15 rfl) rfl ?_
    have hlt : q0 < ws.length := (List.getElem?_eq_some_iff.mp he).1
    have he2 : (ws ++ [(q, (.inl (g.2.2.1 0, kn, .inl (fun _ => 0)) : va_E))])[q0]? = some (src, .inl (g.2.2.1 0, N, .inl f)) := by rw [List.getElem?_append_left hlt]; exact he
    refine n_alen C q0 he2 (v := nI N) rfl (tk T_copy 16 rfl) ?_
    refine n_iload_n C (tk T_copy 17 rfl) rfl ?_
    refine n_statI0 C (M := fun _ _ => 0) [.int (nI N), .int k] me_yJ9_min_7cf53 cp_min (ct_Math_min (s_min (post := fun r _ => r = jmin (nI N) k) rfl)) (by decide) rfl rfl (Nat.le_of_ble_eq_true rfl) (tk T_copy 18 rfl) ⟨by omega, by omega⟩ (fun r M1 hr => ?_)
    have hmin : r = k := by
      rw [hr]
      have h9 : (jmin (nI N) k).toInt = k.toInt := by rw [jminI, hk, nI_toI (by omega), nI_toI (by omega)]; omega
      exact Int32.toInt_inj.mp h9
    subst hmin
    refine n_copyi C q0 ws.length cp_ac cp_nat cp_st cp_in he2 (n1 := kn) (f2 := fun _ => 0) (by rw [List.getElem?_append_right (Nat.le_refl _), Nat.sub_self]; rfl) hk0 (by omega) (by omega) (by decide) (Nat.le_of_ble_eq_true rfl) (tk T_copy 19 rfl) ?_
    refine n_ws (ws2 := ws ++ [(q, .inl (g.2.2.1 0, kn, .inl (va_cpy f (fun _ => 0) 0 0 kn)))]) (by rw [List.set_append_right _ _ (Nat.le_refl _), Nat.sub_self, hkn]; rfl) ?_
    refine n_aload_n C (tk T_copy 20 rfl) rfl ?_
    refine n_to rfl (by omega) (by omega) (RT (va_cpy f (fun _ => 0) 0 0 kn) q _ _ (tk T_copy 21 rfl) (fun j hj => ?_))
    unfold va_cpy
    rw [if_pos ⟨Nat.zero_le _, by omega⟩, Nat.zero_add, Nat.sub_zero]
  · have eN : kn = N := by
      have h1 : (nI kn).toNatClampNeg = (nI N).toNatClampNeg := by rw [← hk, e]
      rw [nI_clamp (by omega), nI_clamp (by omega)] at h1
      exact h1
    subst eN
    refine n_aload_n C (tk T_copy 4 rfl) rfl ?_
    refine n_clone C q0 cl_lk cl_sm cl_nat cl_in cl_sel cl_ca he (by decide) (Nat.le_of_ble_eq_true rfl) (by omega) (by omega) (tk T_copy 5 rfl) (fun q => ?_)
    refine n_castA C ws.length cl_cl (n := kn) (f := f) (by rw [List.getElem?_append_right (Nat.le_refl _), Nat.sub_self]; rfl) (tk T_copy 6 rfl) ?_
    exact n_to rfl (by omega) (by omega) (RT f q _ _ (tk T_copy 7 rfl) (fun j _ => rfl))
