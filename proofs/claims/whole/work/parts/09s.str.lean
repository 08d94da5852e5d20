/-! METHODS THAT TAKE THE WORDS AS GIVEN: contracts without a throw, their rows, String's own members -/
def SI (l : Launch) (g : GT) (lay : List CD) (sk : Nat → Nat) (y : MethodName) (bb : ByteArray) (mL : Nat) (ret : Option FieldType) (h : Nat) (vs : List Value) (M : Mem) (post : Int32 → Mem → Prop) : Prop :=
  ∀ sz, Met l y (.code y bb mL ret :: GW) (rmH h) (pcX l g lay sk M vs sz) (va_Qi post (fun u t => wP g lay u t.heap) (frW g lay M sz)) 0 0 (frW g lay M sz)
def SV (l : Launch) (g : GT) (lay : List CD) (sk : Nat → Nat) (y : MethodName) (bb : ByteArray) (mL : Nat) (ret : Option FieldType) (h : Nat) (vs : List Value) (M : Mem) (post : Mem → Prop) : Prop :=
  ∀ sz, Met l y (.code y bb mL ret :: GW) (rmH h) (pcX l g lay sk M vs sz) (va_Qv post (fun u t => wP g lay u t.heap) (frW g lay M sz)) 0 0 (frW g lay M sz)
/-- a return of any small type -/
def RetT (X : FX) (g : GT) (lay : List CD) (A : Nat → Prop) (b : ByteArray) (nL kc ks : Nat) (Z : State → Prop) (ty : FieldType) (post : Int32 → Mem → Prop) : Prop := ∀ (v : Int32) (M : Mem) (pc : Nat) (lv : List (Nat × Value)), decode b pc = .ok (.ireturn, 1) → narrow ty (.int v) = .int v → post v M → AtX X g lay A nL kc ks Z pc lv [.int v] M
section ATS
variable {X : FX} {g : GT} {lay : List CD} {A : Nat → Prop} {b : ByteArray} {nL kc ks h n : Nat} {own : String} {Z : State → Prop} {pc : Nat} {lv : List (Nat × Value)} {st : List Value} {M : Mem} {sk : Nat → Nat}
theorem s_callI (C : CxX X g lay A b nL own h n sk) {y : MethodName} {bb : ByteArray} {mL np idx h2 q ci N : Nat} {ret : Option FieldType} {T : u_T} {fl : List (Option Nat)} {stk : List Value} (As : List Value) {Rest : Int32 → Mem → Prop} (hy : MeV y bb mL ret np) (hlk : Cond.methodLink own idx y ∈ GW) (hct : SI X.2.1 g lay sk y bb mL ret h2 (.ref (ad g q) :: As) M Rest) (hh : h2 + 1 ≤ h) (hq : lay[q]? = some (4, ci, fl)) (hcl : vwCl[ci]? = some (y.cls, T, N)) (hstk : stk = As.reverse ++ .ref (ad g q) :: st) (hn : As.length = np) (hw : (st.map fun v => v.category).sum ≤ 8) (hd : decode b pc = .ok (.invokevirtual idx, 3)) (hr : kc ≤ X.2.2.2.1.cells ∧ ks ≤ X.2.2.2.1.slots) (K : ∀ (r : Int32) (M1 : Mem), Rest r M1 → AtX X g lay A nL kc ks Z (pc + 3) lv (.int r :: st) M1) : AtX X g lay A nL kc ks Z pc lv stk M := by
  subst hstk
  intro H locs ls hP hS hl
  have hFc := cx_frees (M := M) C.1 hS
  exact va_calli (va_runV (As := As) (rest := st) (cx_fix C.1) (hct H.size) ⟨cx_callB C.1 hy.1 hlk hh, C.1.2.2.2.2.1 _ hy.2.1, C.1.2.2.2.2.1 _ hy.2.2⟩ ⟨pcX_blind, va_recv C.1.2.2.2.2.2.1 hP hcl (wl_get (g := g) (M := M) hq), cxx_pre C hP hS⟩ rfl hn hl.size rfl (lv_room hw) hd hr) hS (fun q _ h => hFc q h) hFc (fun r u t H1 locs1 ht hvm hpost hB hz1 hk1 hS1 => K r u hpost H1 locs1 ls (by rw [← ht]; exact hB) hS1 hl)
theorem s_statI (C : CxX X g lay A b nL own h n sk) {y : MethodName} {bb : ByteArray} {mL np idx h2 : Nat} {ret : Option FieldType} {stk : List Value} (As : List Value) {Rest : Int32 → Mem → Prop} (hy : MeS y bb mL ret np) (hlk : Cond.methodLink own idx y ∈ GW) (hct : SI X.2.1 g lay sk y bb mL ret h2 As M Rest) (hh : h2 + 1 ≤ h) (hstk : stk = As.reverse ++ st) (hn : As.length = np) (hw : (st.map fun v => v.category).sum ≤ 8) (hd : decode b pc = .ok (.invokestatic idx, 3)) (hr : kc ≤ X.2.2.2.1.cells ∧ ks ≤ X.2.2.2.1.slots) (K : ∀ (r : Int32) (M1 : Mem), Rest r M1 → AtX X g lay A nL kc ks Z (pc + 3) lv (.int r :: st) M1) : AtX X g lay A nL kc ks Z pc lv stk M := by
  subst hstk
  intro H locs ls hP hS hl
  have hFc := cx_frees (M := M) C.1 hS
  exact va_calli (va_runS (As := As) (rest := st) (cx_fix C.1) (hct H.size) ⟨cx_callB C.1 hy.1 hlk hh, C.1.2.2.2.2.1 _ hy.2⟩ ⟨pcX_blind, cxx_pre C hP hS⟩ rfl hn hl.size rfl (lv_room hw) hd hr) hS (fun q _ h => hFc q h) hFc (fun r u t H1 locs1 ht hvm hpost hB hz1 hk1 hS1 => K r u hpost H1 locs1 ls (by rw [← ht]; exact hB) hS1 hl)
/-- on a String -/
theorem s_strI (C : CxX X g lay A b nL own h n sk) {y : MethodName} {bb : ByteArray} {mL np idx h2 q : Nat} {ret : Option FieldType} {stk : List Value} (As : List Value) {Rest : Int32 → Mem → Prop} (hy : MeV y bb mL ret np) (hcs : y.cls = "java/lang/String") (hlk : Cond.methodLink own idx y ∈ GW) (hct : SI X.2.1 g lay sk y bb mL ret h2 (.ref q :: As) M Rest) (hh : h2 + 1 ≤ h) (hq : va_O "java/lang/String" q A (xs X) (xs X).heap) (hstk : stk = As.reverse ++ .ref q :: st) (hn : As.length = np) (hw : (st.map fun v => v.category).sum ≤ 8) (hd : decode b pc = .ok (.invokevirtual idx, 3)) (hr : kc ≤ X.2.2.2.1.cells ∧ ks ≤ X.2.2.2.1.slots) (K : ∀ (r : Int32) (M1 : Mem), Rest r M1 → AtX X g lay A nL kc ks Z (pc + 3) lv (.int r :: st) M1) : AtX X g lay A nL kc ks Z pc lv stk M := by
  subst hstk
  intro H locs ls hP hS hl
  have hFc := cx_frees (M := M) C.1 hS
  obtain ⟨cell, q1, q2, q3, -⟩ := hq.kept hS.2.1
  exact va_calli (va_runV (As := As) (rest := st) (cx_fix C.1) (hct H.size) ⟨cx_callB C.1 hy.1 hlk hh, C.1.2.2.2.2.1 _ hy.2.1, C.1.2.2.2.2.1 _ hy.2.2⟩ ⟨pcX_blind, ⟨cell, q1, q2, by rw [hcs]; exact q3⟩, cxx_pre C hP hS⟩ rfl hn hl.size rfl (lv_room hw) hd hr) hS (fun q _ h => hFc q h) hFc (fun r u t H1 locs1 ht hvm hpost hB hz1 hk1 hS1 => K r u hpost H1 locs1 ls (by rw [← ht]; exact hB) hS1 hl)
theorem s_callV (C : CxX X g lay A b nL own h n sk) {y : MethodName} {bb : ByteArray} {mL np idx h2 q ci N : Nat} {ret : Option FieldType} {T : u_T} {fl : List (Option Nat)} {stk : List Value} (As : List Value) {Rest : Mem → Prop} (hy : MeV y bb mL ret np) (hlk : Cond.methodLink own idx y ∈ GW) (hct : SV X.2.1 g lay sk y bb mL ret h2 (.ref (ad g q) :: As) M Rest) (hh : h2 + 1 ≤ h) (hq : lay[q]? = some (4, ci, fl)) (hcl : vwCl[ci]? = some (y.cls, T, N)) (hstk : stk = As.reverse ++ .ref (ad g q) :: st) (hn : As.length = np) (hw : (st.map fun v => v.category).sum ≤ 8) (hd : decode b pc = .ok (.invokevirtual idx, 3)) (hr : kc ≤ X.2.2.2.1.cells ∧ ks ≤ X.2.2.2.1.slots) (K : ∀ (M1 : Mem), Rest M1 → AtX X g lay A nL kc ks Z (pc + 3) lv st M1) : AtX X g lay A nL kc ks Z pc lv stk M := by
  subst hstk
  intro H locs ls hP hS hl
  have hFc := cx_frees (M := M) C.1 hS
  exact va_callv (va_runV (As := As) (rest := st) (cx_fix C.1) (hct H.size) ⟨cx_callB C.1 hy.1 hlk hh, C.1.2.2.2.2.1 _ hy.2.1, C.1.2.2.2.2.1 _ hy.2.2⟩ ⟨pcX_blind, va_recv C.1.2.2.2.2.2.1 hP hcl (wl_get (g := g) (M := M) hq), cxx_pre C hP hS⟩ rfl hn hl.size rfl (lv_room hw) hd hr) hS (fun q _ h => hFc q h) hFc (fun u t H1 locs1 ht hvm hpost hB hz1 hk1 hS1 => K u hpost H1 locs1 ls (by rw [← ht]; exact hB) hS1 hl)
theorem s_statV (C : CxX X g lay A b nL own h n sk) {y : MethodName} {bb : ByteArray} {mL np idx h2 : Nat} {ret : Option FieldType} {stk : List Value} (As : List Value) {Rest : Mem → Prop} (hy : MeS y bb mL ret np) (hlk : Cond.methodLink own idx y ∈ GW) (hct : SV X.2.1 g lay sk y bb mL ret h2 As M Rest) (hh : h2 + 1 ≤ h) (hstk : stk = As.reverse ++ st) (hn : As.length = np) (hw : (st.map fun v => v.category).sum ≤ 8) (hd : decode b pc = .ok (.invokestatic idx, 3)) (hr : kc ≤ X.2.2.2.1.cells ∧ ks ≤ X.2.2.2.1.slots) (K : ∀ (M1 : Mem), Rest M1 → AtX X g lay A nL kc ks Z (pc + 3) lv st M1) : AtX X g lay A nL kc ks Z pc lv stk M := by
  subst hstk
  intro H locs ls hP hS hl
  have hFc := cx_frees (M := M) C.1 hS
  exact va_callv (va_runS (As := As) (rest := st) (cx_fix C.1) (hct H.size) ⟨cx_callB C.1 hy.1 hlk hh, C.1.2.2.2.2.1 _ hy.2⟩ ⟨pcX_blind, cxx_pre C hP hS⟩ rfl hn hl.size rfl (lv_room hw) hd hr) hS (fun q _ h => hFc q h) hFc (fun u t H1 locs1 ht hvm hpost hB hz1 hk1 hS1 => K u hpost H1 locs1 ls (by rw [← ht]; exact hB) hS1 hl)
theorem s_ldc (C : CxX X g lay A b nL own h n sk) {idx q : Nat} {tx : String} (hR : vk_R own idx tx q (xs X)) (hd : decode b pc = .ok (.ldc idx, 2)) (K : AtX X g lay A nL kc ks Z (pc + 2) lv (.ref q :: st) M) : AtX X g lay A nL kc ks Z pc lv st M := fun H locs ls hP hS hl => va_ldcS C.1.1 C.1.2.1 C.1.2.2.2.1 hR hd (K H locs ls hP hS hl)
theorem s_ldc_w (C : CxX X g lay A b nL own h n sk) {idx q : Nat} {tx : String} (hR : vk_R own idx tx q (xs X)) (hd : decode b pc = .ok (.ldc_w idx, 3)) (K : AtX X g lay A nL kc ks Z (pc + 3) lv (.ref q :: st) M) : AtX X g lay A nL kc ks Z pc lv st M := by
  intro H locs ls hP hS hl T hT Y
  obtain ⟨t, a1, b1⟩ := K H locs ls hP hS hl T hT Y
  exact ⟨t, Y.ldcStringW C.1.1 C.1.2.2.2.1 (text := tx) (a := q) hR.1 hR.2 (g := xF X pc ls st) rfl (by rw [C.1.2.1]; exact hd) t a1, b1⟩
theorem s_gets (C : CxX X g lay A b nL own h n sk) {Cs nm ds : String} {v : Value} {idx : Nat} (hZ : va_Z Cs nm ds v A (xs X) (xs X).heap) (hl : Cond.fieldLink own idx Cs nm ds ∈ GW) (hd : decode b pc = .ok (.getstatic idx, 3)) (K : AtX X g lay A nL kc ks Z (pc + 3) lv (v :: st) M) : AtX X g lay A nL kc ks Z pc lv st M :=
  fun H locs ls hP hS hl2 => va_gets C.1.1 C.1.2.1 hZ hS C.1.2.2.2.1 (C.1.2.2.2.2.1 _ hl) (fun _ h => h) hd (K H locs ls hP hS hl2)
theorem s_getf (C : CxX X g lay A b nL own h n sk) {Cs nm ds : String} {v : Value} {idx q : Nat} (hE : va_OF Cs nm ds v q A (xs X) (xs X).heap) (hl : Cond.fieldLink own idx Cs nm ds ∈ GW) (hd : decode b pc = .ok (.getfield idx, 3)) (K : AtX X g lay A nL kc ks Z (pc + 3) lv (v :: st) M) : AtX X g lay A nL kc ks Z pc lv (.ref q :: st) M :=
  fun H locs ls hP hS hl2 => vk_getf C.1.1 C.1.2.1 hE hS C.1.2.2.2.1 (C.1.2.2.2.2.1 _ hl) (fun _ h => h) hd (K H locs ls hP hS hl2)
theorem s_tlen (C : CxX X g lay A b nL own h n sk) {t N : Nat} {f : Nat → Value} {ty : FieldType} {v : Int32} (hT : va_T ty t N f A (xs X) (xs X).heap) (hv : Int32.ofNat N = v) (hd : decode b pc = .ok (.arraylength, 1)) (K : AtX X g lay A nL kc ks Z (pc + 1) lv (.int v :: st) M) : AtX X g lay A nL kc ks Z pc lv (.ref t :: st) M :=
  fun H locs ls hP hS hl2 => va_tlen C.1.1 C.1.2.1 hT hS hv hd (K H locs ls hP hS hl2)
theorem s_tb (C : CxX X g lay A b nL own h n sk) {t N : Nat} {f : Nat → Value} {i : Int32} {v : Value} (hT : va_T .byte t N f A (xs X) (xs X).heap) (hi : vp_in i N) (hv : f i.toNatClampNeg = v) (hd : decode b pc = .ok (.baload, 1)) (K : AtX X g lay A nL kc ks Z (pc + 1) lv (v :: st) M) : AtX X g lay A nL kc ks Z pc lv (.int i :: .ref t :: st) M :=
  fun H locs ls hP hS hl2 => va_tb C.1.1 C.1.2.1 hT hS hi hv hd (K H locs ls hP hS hl2)
def i2c (x : Int32) : Int32 := (x.toUInt32 % 65536).toInt32
theorem a_i2c (C : Cx X g lay A b nL own h) {x : Int32} (hd : decode b pc = .ok (.i2c, 1)) (K : AtX X g lay A nL kc ks Z (pc + 1) lv (.int (i2c x) :: st) M) : AtX X g lay A nL kc ks Z pc lv (.int x :: st) M := fun H locs ls hP hS hl => lv_i2c C.1 C.2.1 hd rfl (K H locs ls hP hS hl)
end ATS
set_option maxHeartbeats 1000000 in
theorem st_of {l : Launch} {g : GT} {lay : List CD} {sk : Nat → Nat} {y : MethodName} {bb : ByteArray} {mL h : Nat} {ty : FieldType} {vs : List Value} {M : Mem} {post : Int32 → Mem → Prop} (hy : plainFor y = true) (hc : (lg_sl vs).length ≤ mL)
    (body : ∀ (X : FX) (A : Nat → Prop) (Z : State → Prop), X.2.1 = l → CxX X g lay A bb mL y.cls h 0 sk → 0 ≤ X.2.2.2.1.cells ∧ 0 ≤ X.2.2.2.1.slots → RetT X g lay A bb mL 0 0 Z ty post → AtX X g lay A mL 0 0 Z 0 (lv_args 0 vs) [] M) : SI l g lay sk y bb mL (some ty) h vs M post := by
  intro sz
  refine met_ofW (cc := bb) (maxL := mL) (ret := (some ty)) hy rfl ?_
  intro p e s m args below meth c s₁ B hml hv
  obtain ⟨rfl, hsz, ⟨hP, hK, hN, hD⟩, hTX⟩ := hv
  subst hsz
  have hx := B.exec
  have hb := B.bytes
  have hr := B.returns
  have hts := atoms_spec (ws := .code y bb mL (some ty) :: GW) B.pre
  have hown : s.vm.findClass y.cls = some m.cls := findClass_of_methodNamed B.named
  have hlocks := B.notSynchronized
  generalize hAe : frW g lay M s.heap.size = A at hTX ⊢
  have hin : ∀ k, k < lay.length → A (ad g k) := fun k hk => by
    rw [← hAe]
    exact Or.inl ⟨k, _, wl_get (M := M) (List.getElem?_eq_getElem hk)⟩
  have hA : ∀ q : Nat, s.heap.size ≤ q → A q := fun q h => by rw [← hAe]; exact Or.inr h
  have hAd : AdOK g lay.length A := AdOK.of hD hin
  have hl := lv_entry vs (n := mL) hc
  rw [lg_entry_eq]
  generalize (lg_sl vs ++ List.replicate (mL - (lg_sl vs).length) Slot.unset).toArray = ls at hl ⊢
  refine body (p, l, e, _, s, m, _, below, meth, c) A _ rfl ⟨⟨hx, hb, hml, hown, fun w hw => hts w (List.mem_cons_of_mem _ hw), hK, hN, hAd, hA, Nat.le_refl _, Nat.le_refl _⟩, hTX, Nat.zero_le _, Nat.zero_le _⟩ ⟨Nat.zero_le _, Nat.zero_le _⟩ ?_ s.heap [] ls hP va_S.rf ⟨_, hl, fun i v hi => lookup_in _ hi⟩
  · intro v M1 pc lv hd hnar hpost H locs ls2 hP1 hS1 hl1
    exact W.zret (v := v) (ty := ty) hx hb hr hnar (fun t ht hW => ⟨⟨v, M1, rfl, hpost, by show wP g lay M1 t.heap; rw [ht]; exact hP1⟩, hS1.F ht⟩) hS1.2.2 hd
set_option maxHeartbeats 1000000 in
theorem sv_of {l : Launch} {g : GT} {lay : List CD} {sk : Nat → Nat} {y : MethodName} {bb : ByteArray} {mL h : Nat} {vs : List Value} {M : Mem} {post : Mem → Prop} (hy : plainFor y = true) (hc : (lg_sl vs).length ≤ mL)
    (body : ∀ (X : FX) (A : Nat → Prop) (Z : State → Prop), X.2.1 = l → CxX X g lay A bb mL y.cls h 0 sk → 0 ≤ X.2.2.2.1.cells ∧ 0 ≤ X.2.2.2.1.slots → RetV X g lay A bb mL 0 0 Z post → AtX X g lay A mL 0 0 Z 0 (lv_args 0 vs) [] M) : SV l g lay sk y bb mL none h vs M post := by
  intro sz
  refine met_ofW (cc := bb) (maxL := mL) (ret := none) hy rfl ?_
  intro p e s m args below meth c s₁ B hml hv
  obtain ⟨rfl, hsz, ⟨hP, hK, hN, hD⟩, hTX⟩ := hv
  subst hsz
  have hx := B.exec
  have hb := B.bytes
  have hr := B.returns
  have hts := atoms_spec (ws := .code y bb mL none :: GW) B.pre
  have hown : s.vm.findClass y.cls = some m.cls := findClass_of_methodNamed B.named
  have hlocks := B.notSynchronized
  generalize hAe : frW g lay M s.heap.size = A at hTX ⊢
  have hin : ∀ k, k < lay.length → A (ad g k) := fun k hk => by
    rw [← hAe]
    exact Or.inl ⟨k, _, wl_get (M := M) (List.getElem?_eq_getElem hk)⟩
  have hA : ∀ q : Nat, s.heap.size ≤ q → A q := fun q h => by rw [← hAe]; exact Or.inr h
  have hAd : AdOK g lay.length A := AdOK.of hD hin
  have hl := lv_entry vs (n := mL) hc
  rw [lg_entry_eq]
  generalize (lg_sl vs ++ List.replicate (mL - (lg_sl vs).length) Slot.unset).toArray = ls at hl ⊢
  refine body (p, l, e, _, s, m, _, below, meth, c) A _ rfl ⟨⟨hx, hb, hml, hown, fun w hw => hts w (List.mem_cons_of_mem _ hw), hK, hN, hAd, hA, Nat.le_refl _, Nat.le_refl _⟩, hTX, Nat.zero_le _, Nat.zero_le _⟩ ⟨Nat.zero_le _, Nat.zero_le _⟩ ?_ s.heap [] ls hP va_S.rf ⟨_, hl, fun i v hi => lookup_in _ hi⟩
  · intro M1 pc lv hd hpost H locs ls2 hP1 hS1 hl1
    exact W.vret hx hb hr (fun t ht hW => ⟨⟨M1, rfl, hpost, by show wP g lay M1 t.heap; rw [ht]; exact hP1⟩, hS1.F ht⟩) hS1.2.2 hd
def T_cJ0_length_8abf5L : List (Nat × Instr × Nat) := [(0, .aload_n 0, 1), (1, .getfield 9, 3), (4, .arraylength, 1), (5, .aload_n 0, 1), (6, .invokevirtual 335, 3), (9, .ishr, 1), (10, .ireturn, 1)]
theorem T_cJ0_length_8abf5 : tabOK cJ0_length_8abf5 T_cJ0_length_8abf5L = true := by decide +kernel
def T_cJ0_charAt_5068eL : List (Nat × Instr × Nat) := [(0, .aload_n 0, 1), (1, .invokevirtual 492, 3), (4, .ifCond .eq 12, 3), (7, .aload_n 0, 1), (8, .getfield 9, 3), (11, .iload_n 1, 1), (12, .invokestatic 495, 3), (15, .ireturn, 1), (16, .aload_n 0, 1), (17, .getfield 9, 3), (20, .iload_n 1, 1), (21, .invokestatic 498, 3), (24, .ireturn, 1)]
theorem T_cJ0_charAt_5068e : tabOK cJ0_charAt_5068e T_cJ0_charAt_5068eL = true := by decide +kernel
def T_cJ0_coder_7d493L : List (Nat × Instr × Nat) := [(0, .getstatic 38, 3), (3, .ifCond .eq 10, 3), (6, .aload_n 0, 1), (7, .getfield 15, 3), (10, .goto 4, 3), (13, .iconst 1, 1), (14, .ireturn, 1)]
theorem T_cJ0_coder_7d493 : tabOK cJ0_coder_7d493 T_cJ0_coder_7d493L = true := by decide +kernel
def T_cJ0_isLatin1_aae02L : List (Nat × Instr × Nat) := [(0, .getstatic 38, 3), (3, .ifCond .eq 14, 3), (6, .aload_n 0, 1), (7, .getfield 15, 3), (10, .ifCond .ne 7, 3), (13, .iconst 1, 1), (14, .goto 4, 3), (17, .iconst 0, 1), (18, .ireturn, 1)]
theorem T_cJ0_isLatin1_aae02 : tabOK cJ0_isLatin1_aae02 T_cJ0_isLatin1_aae02L = true := by decide +kernel
def T_cJ0_checkIndex_df160L : List (Nat × Instr × Nat) := [(0, .iload_n 0, 1), (1, .iload_n 1, 1), (2, .getstatic 1053, 3), (5, .invokestatic 1059, 3), (8, .pop, 1), (9, .return_, 1)]
theorem T_cJ0_checkIndex_df160 : tabOK cJ0_checkIndex_df160 T_cJ0_checkIndex_df160L = true := by decide +kernel
def T_cJ1_charAt_3b067L : List (Nat × Instr × Nat) := [(0, .iload_n 1, 1), (1, .aload_n 0, 1), (2, .arraylength, 1), (3, .invokestatic 9, 3), (6, .aload_n 0, 1), (7, .iload_n 1, 1), (8, .baload, 1), (9, .sipush 255, 3), (12, .iand, 1), (13, .i2c, 1), (14, .ireturn, 1)]
theorem T_cJ1_charAt_3b067 : tabOK cJ1_charAt_3b067 T_cJ1_charAt_3b067L = true := by decide +kernel
def T_cJ3_checkIndex_8e157L : List (Nat × Instr × Nat) := [(0, .iload_n 0, 1), (1, .ifCond .lt 8, 3), (4, .iload_n 0, 1), (5, .iload_n 1, 1), (6, .if_icmp .lt 10, 3), (9, .aload_n 2, 1), (10, .iload_n 0, 1), (11, .iload_n 1, 1), (12, .invokestatic 95, 3), (15, .athrow, 1), (16, .iload_n 0, 1), (17, .ireturn, 1)]
theorem T_cJ3_checkIndex_8e157 : tabOK cJ3_checkIndex_8e157 T_cJ3_checkIndex_8e157L = true := by decide +kernel
theorem me_yJ0_length_8abf5 : MeV yJ0_length_8abf5 cJ0_length_8abf5 1 (some .int) 0 := ⟨⟨g1 23 (by decide +kernel) (by decide +kernel), g6 202 (by decide +kernel) (by decide +kernel), by decide +kernel, by decide⟩, g6 200 (by decide +kernel) (by decide +kernel), g6 201 (by decide +kernel) (by decide +kernel)⟩
theorem me_yJ0_charAt_5068e : MeV yJ0_charAt_5068e cJ0_charAt_5068e 2 (some .char) 1 := ⟨⟨g1 23 (by decide +kernel) (by decide +kernel), g6 212 (by decide +kernel) (by decide +kernel), by decide +kernel, by decide⟩, g6 210 (by decide +kernel) (by decide +kernel), g6 211 (by decide +kernel) (by decide +kernel)⟩
theorem me_yJ0_coder_7d493 : MeV yJ0_coder_7d493 cJ0_coder_7d493 1 (some .byte) 0 := ⟨⟨g1 23 (by decide +kernel) (by decide +kernel), g6 206 (by decide +kernel) (by decide +kernel), by decide +kernel, by decide⟩, g6 204 (by decide +kernel) (by decide +kernel), g6 205 (by decide +kernel) (by decide +kernel)⟩
theorem me_yJ0_isLatin1_aae02 : MeV yJ0_isLatin1_aae02 cJ0_isLatin1_aae02 1 (some .boolean) 0 := ⟨⟨g1 23 (by decide +kernel) (by decide +kernel), g6 216 (by decide +kernel) (by decide +kernel), by decide +kernel, by decide⟩, g6 214 (by decide +kernel) (by decide +kernel), g6 215 (by decide +kernel) (by decide +kernel)⟩
theorem me_yJ0_checkIndex_df160 : MeS yJ0_checkIndex_df160 cJ0_checkIndex_df160 2 none 2 := ⟨⟨g1 23 (by decide +kernel) (by decide +kernel), g6 222 (by decide +kernel) (by decide +kernel), by decide +kernel, by decide⟩, g6 221 (by decide +kernel) (by decide +kernel)⟩
theorem me_yJ1_charAt_3b067 : MeS yJ1_charAt_3b067 cJ1_charAt_3b067 2 (some .char) 2 := ⟨⟨g1 24 (by decide +kernel) (by decide +kernel), g6 219 (by decide +kernel) (by decide +kernel), by decide +kernel, by decide⟩, g6 218 (by decide +kernel) (by decide +kernel)⟩
theorem me_yJ3_checkIndex_8e157 : MeS yJ3_checkIndex_8e157 cJ3_checkIndex_8e157 3 (some .int) 3 := ⟨⟨g1 25 (by decide +kernel) (by decide +kernel), g6 227 (by decide +kernel) (by decide +kernel), by decide +kernel, by decide⟩, g6 226 (by decide +kernel) (by decide +kernel)⟩
theorem lk_RJ0_335 : Cond.methodLink RJ0 335 yJ0_coder_7d493 ∈ GW := g6 203 (by decide +kernel) (by decide +kernel)
theorem lk_RJ0_492 : Cond.methodLink RJ0 492 yJ0_isLatin1_aae02 ∈ GW := g6 213 (by decide +kernel) (by decide +kernel)
theorem lk_RJ0_495 : Cond.methodLink RJ0 495 yJ1_charAt_3b067 ∈ GW := g6 217 (by decide +kernel) (by decide +kernel)
theorem lk_RJ0_1059 : Cond.methodLink RJ0 1059 yJ3_checkIndex_8e157 ∈ GW := g6 225 (by decide +kernel) (by decide +kernel)
theorem lk_RJ1_9 : Cond.methodLink RJ1 9 yJ0_checkIndex_df160 ∈ GW := g6 220 (by decide +kernel) (by decide +kernel)
theorem lk_RX6_111 : Cond.methodLink RX6 111 yJ0_length_8abf5 ∈ GW := g6 199 (by decide +kernel) (by decide +kernel)
theorem lk_RX6_116 : Cond.methodLink RX6 116 yJ0_charAt_5068e ∈ GW := g6 209 (by decide +kernel) (by decide +kernel)
theorem lk_RX12_296 : Cond.methodLink RX12 296 yJ0_length_8abf5 ∈ GW := g9 150 (by decide +kernel) (by decide +kernel)
theorem lk_RX12_301 : Cond.methodLink RX12 301 yJ0_charAt_5068e ∈ GW := g9 151 (by decide +kernel) (by decide +kernel)
theorem fs_9 : Cond.fieldLink RJ0 9 "java/lang/String" "value" "[B" ∈ GW := g9 217 (by decide +kernel) (by decide +kernel)
theorem fs_15 : Cond.fieldLink RJ0 15 "java/lang/String" "coder" "B" ∈ GW := g9 218 (by decide +kernel) (by decide +kernel)
theorem fs_38 : Cond.fieldLink RJ0 38 "java/lang/String" "COMPACT_STRINGS" "Z" ∈ GW := g6 207 (by decide +kernel) (by decide +kernel)
theorem fs_1053 : Cond.fieldLink RJ0 1053 "jdk/internal/util/Preconditions" "SIOOBE_FORMATTER" "Ljava/util/function/BiFunction;" ∈ GW := g6 223 (by decide +kernel) (by decide +kernel)
section STRM
variable {l : Launch} {g : GT} {lay : List CD} {sk : Nat → Nat} {M : Mem}
theorem ct_pci {post : Int32 → Mem → Prop} {x0 x1 : Int32} {v : Value} (hv : v = .null ∨ ∃ t, v = .ref t) (h0 : ¬ x0 < 0) (h1 : x0 < x1) (h : post x0 M) : CI l g lay yJ3_checkIndex_8e157 cJ3_checkIndex_8e157 3 (some .int) 0 [.int x0, .int x1, v] M post := by
  refine ci_of (plainFor_of_name (by decide +kernel)) (by rcases hv with rfl | ⟨t, rfl⟩ <;> exact Nat.le_of_ble_eq_true rfl) (fun X A Z hl C hr hR => ?_)
  have e : lv_args 0 [.int x0, .int x1, v] = [(0, .int x0), (1, .int x1), (2, v)] := rfl
  rw [e]
  refine a_iload_n C (tk T_cJ3_checkIndex_8e157 0 rfl) rfl ?_
  refine a_if_lt C 9 (tk T_cJ3_checkIndex_8e157 1 rfl) rfl (fun c => absurd c h0) (fun c => ?_)
  refine a_iload_n C (tk T_cJ3_checkIndex_8e157 2 rfl) rfl ?_
  refine a_iload_n C (tk T_cJ3_checkIndex_8e157 3 rfl) rfl ?_
  refine a_icmp_lt C 16 (tk T_cJ3_checkIndex_8e157 4 rfl) rfl (fun c => ?_) (fun c => absurd h1 c)
  refine a_iload_n C (tk T_cJ3_checkIndex_8e157 10 rfl) rfl ?_
  exact hR _ _ _ _ (tk T_cJ3_checkIndex_8e157 11 rfl) h
theorem ct_sci {post : Mem → Prop} {x0 x1 : Int32} (h0 : ¬ x0 < 0) (h1 : x0 < x1) (h : post M) : SV l g lay sk yJ0_checkIndex_df160 cJ0_checkIndex_df160 2 none 1 [.int x0, .int x1] M post := by
  refine sv_of (plainFor_of_name (by decide +kernel)) (Nat.le_of_ble_eq_true rfl) (fun X A Z hl C hr hR => ?_)
  refine a_iload_n C.1 (tk T_cJ0_checkIndex_df160 0 rfl) rfl ?_
  refine a_iload_n C.1 (tk T_cJ0_checkIndex_df160 1 rfl) rfl ?_
  have key : ∀ v : Value, (v = .null ∨ ∃ t, v = .ref t) → AtX X g lay A 2 0 0 Z 5 (lv_args 0 [.int x0, .int x1]) [v, .int x1, .int x0] M := by
    intro v hv
    refine a_statI C.1 (Rest := fun r M1 => r = x0 ∧ M1 = M) [.int x0, .int x1, v] me_yJ3_checkIndex_8e157 lk_RJ0_1059 (ct_pci hv h0 h1 ⟨rfl, rfl⟩) (by decide) rfl rfl (Nat.le_of_ble_eq_true rfl) (tk T_cJ0_checkIndex_df160 3 rfl) hr (fun r M1 hp => ?_)
    obtain ⟨rfl, rfl⟩ := hp
    refine a_popi C.1 (tk T_cJ0_checkIndex_df160 4 rfl) ?_
    exact hR _ _ _ (tk T_cJ0_checkIndex_df160 5 rfl) h
  rcases C.2.1.2.2.2.2.2.2.2.2.1 with hz | ⟨t, hz⟩
  · exact s_gets C hz fs_1053 (tk T_cJ0_checkIndex_df160 2 rfl) (key .null (Or.inl rfl))
  · exact s_gets C hz fs_1053 (tk T_cJ0_checkIndex_df160 2 rfl) (key (.ref t) (Or.inr ⟨t, rfl⟩))
/-- a word's place: o = 10 the class's, o = 30 the reference's -/
def wok (o j : Nat) : Prop := (o = 10 ∨ o = 30) ∧ j < 10
theorem wok.at {A : Nat → Prop} {U : State} {H : Heap} {o j : Nat} (hw : wok o j) (h : SXt sk A U H) : va_O "java/lang/String" (sk (o + j)) A U H ∧ va_OF "java/lang/String" "coder" "B" (.int 0) (sk (o + j)) A U H ∧ va_OF "java/lang/String" "value" "[B" (.ref (sk (o + 10 + j))) (sk (o + j)) A U H ∧ va_T .byte (sk (o + 10 + j)) (WL.getD j 0) (fun i => .int ((WB.getD j []).getD i 0)) A U H := by
  obtain ⟨rfl | rfl, hj⟩ := hw
  · exact h.2.2.1.1 j hj
  · exact h.2.2.2.1.1 j hj
theorem ct_coder {post : Int32 → Mem → Prop} {o j : Nat} (hw : wok o j) (h : post 0 M) : SI l g lay sk yJ0_coder_7d493 cJ0_coder_7d493 1 (some .byte) 0 [.ref (sk (o + j))] M post := by
  refine st_of (plainFor_of_name (by decide +kernel)) (Nat.le_of_ble_eq_true rfl) (fun X A Z hl C hr hR => ?_)
  refine s_gets C C.2.1.2.2.2.2.2.2.2.1 fs_38 (tk T_cJ0_coder_7d493 0 rfl) ?_
  refine a_if_eq C.1 13 (tk T_cJ0_coder_7d493 1 rfl) rfl (fun c => absurd c (by decide)) (fun c => ?_)
  refine a_aload_n C.1 (tk T_cJ0_coder_7d493 2 rfl) rfl ?_
  refine s_getf C (hw.at C.2.1.2.2.2.2.2.2.2).2.1 fs_15 (tk T_cJ0_coder_7d493 3 rfl) ?_
  refine a_goto C.1 14 (tk T_cJ0_coder_7d493 4 rfl) rfl ?_
  exact hR _ _ _ _ (tk T_cJ0_coder_7d493 6 rfl) rfl h
theorem ct_isLatin1 {post : Int32 → Mem → Prop} {o j : Nat} (hw : wok o j) (h : post 1 M) : SI l g lay sk yJ0_isLatin1_aae02 cJ0_isLatin1_aae02 1 (some .boolean) 0 [.ref (sk (o + j))] M post := by
  refine st_of (plainFor_of_name (by decide +kernel)) (Nat.le_of_ble_eq_true rfl) (fun X A Z hl C hr hR => ?_)
  refine s_gets C C.2.1.2.2.2.2.2.2.2.1 fs_38 (tk T_cJ0_isLatin1_aae02 0 rfl) ?_
  refine a_if_eq C.1 17 (tk T_cJ0_isLatin1_aae02 1 rfl) rfl (fun c => absurd c (by decide)) (fun c => ?_)
  refine a_aload_n C.1 (tk T_cJ0_isLatin1_aae02 2 rfl) rfl ?_
  refine s_getf C (hw.at C.2.1.2.2.2.2.2.2.2).2.1 fs_15 (tk T_cJ0_isLatin1_aae02 3 rfl) ?_
  refine a_if_ne C.1 17 (tk T_cJ0_isLatin1_aae02 4 rfl) rfl (fun c => absurd rfl c) (fun c => ?_)
  refine a_iconst C.1 (1 : Int32) (tk T_cJ0_isLatin1_aae02 5 rfl) kI_1 ?_
  refine a_goto C.1 18 (tk T_cJ0_isLatin1_aae02 6 rfl) rfl ?_
  exact hR _ _ _ _ (tk T_cJ0_isLatin1_aae02 8 rfl) rfl h
def wlen (j : Nat) : Int32 := Int32.ofNat (WL.getD j 0)
def wch (j k : Nat) : Int32 := (WB.getD j []).getD k 0
theorem ct_lat {post : Int32 → Mem → Prop} {o j : Nat} (hw : wok o j) {x : Int32} (hx : vp_in x (WL.getD j 0)) (hx2 : x < wlen j) (h : post (i2c (wch j x.toNatClampNeg &&& 255)) M) : SI l g lay sk yJ1_charAt_3b067 cJ1_charAt_3b067 2 (some .char) 2 [.ref (sk (o + 10 + j)), .int x] M post := by
  refine st_of (plainFor_of_name (by decide +kernel)) (Nat.le_of_ble_eq_true rfl) (fun X A Z hl C hr hR => ?_)
  have hT := (hw.at C.2.1.2.2.2.2.2.2.2).2.2.2
  refine a_iload_n C.1 (tk T_cJ1_charAt_3b067 0 rfl) rfl ?_
  refine a_aload_n C.1 (tk T_cJ1_charAt_3b067 1 rfl) rfl ?_
  refine s_tlen C (v := wlen j) hT rfl (tk T_cJ1_charAt_3b067 2 rfl) ?_
  refine s_statV C (Rest := fun M1 => M1 = M) [.int x, .int (wlen j)] me_yJ0_checkIndex_df160 lk_RJ1_9 (ct_sci (fun c => hx (Or.inl c)) hx2 rfl) (by decide) rfl rfl (Nat.le_of_ble_eq_true rfl) (tk T_cJ1_charAt_3b067 3 rfl) hr (fun M1 hp => ?_)
  subst hp
  refine a_aload_n C.1 (tk T_cJ1_charAt_3b067 4 rfl) rfl ?_
  refine a_iload_n C.1 (tk T_cJ1_charAt_3b067 5 rfl) rfl ?_
  refine s_tb C (v := .int (wch j x.toNatClampNeg)) hT hx rfl (tk T_cJ1_charAt_3b067 6 rfl) ?_
  refine a_sipush C.1 (255 : Int32) (tk T_cJ1_charAt_3b067 7 rfl) (by decide) ?_
  refine a_iand C.1 (tk T_cJ1_charAt_3b067 8 rfl) ?_
  refine a_i2c C.1 (tk T_cJ1_charAt_3b067 9 rfl) ?_
  exact hR _ _ _ _ (tk T_cJ1_charAt_3b067 10 rfl) (pk_nc _) h
theorem ct_length {post : Int32 → Mem → Prop} {o j : Nat} (hw : wok o j) (h : post (wlen j >>> ((0 : Int32) &&& 31)) M) : SI l g lay sk yJ0_length_8abf5 cJ0_length_8abf5 1 (some .int) 1 [.ref (sk (o + j))] M post := by
  refine st_of (plainFor_of_name (by decide +kernel)) (Nat.le_of_ble_eq_true rfl) (fun X A Z hl C hr hR => ?_)
  have hT := hw.at C.2.1.2.2.2.2.2.2.2
  refine a_aload_n C.1 (tk T_cJ0_length_8abf5 0 rfl) rfl ?_
  refine s_getf C hT.2.2.1 fs_9 (tk T_cJ0_length_8abf5 1 rfl) ?_
  refine s_tlen C (v := wlen j) hT.2.2.2 rfl (tk T_cJ0_length_8abf5 2 rfl) ?_
  refine a_aload_n C.1 (tk T_cJ0_length_8abf5 3 rfl) rfl ?_
  refine s_strI C (Rest := fun r M1 => r = 0 ∧ M1 = M) [] me_yJ0_coder_7d493 rfl lk_RJ0_335 (ct_coder hw ⟨rfl, rfl⟩) (by decide) hT.1 rfl rfl (Nat.le_of_ble_eq_true rfl) (tk T_cJ0_length_8abf5 4 rfl) hr (fun r M1 hp => ?_)
  obtain ⟨rfl, rfl⟩ := hp
  refine a_ishr C.1 (tk T_cJ0_length_8abf5 5 rfl) ?_
  exact hR _ _ _ _ (tk T_cJ0_length_8abf5 6 rfl) rfl h
theorem ct_charAt {post : Int32 → Mem → Prop} {o j : Nat} (hw : wok o j) {x : Int32} (hx : vp_in x (WL.getD j 0)) (hx2 : x < wlen j) (h : post (i2c (wch j x.toNatClampNeg &&& 255)) M) : SI l g lay sk yJ0_charAt_5068e cJ0_charAt_5068e 2 (some .char) 3 [.ref (sk (o + j)), .int x] M post := by
  refine st_of (plainFor_of_name (by decide +kernel)) (Nat.le_of_ble_eq_true rfl) (fun X A Z hl C hr hR => ?_)
  have hT := hw.at C.2.1.2.2.2.2.2.2.2
  refine a_aload_n C.1 (tk T_cJ0_charAt_5068e 0 rfl) rfl ?_
  refine s_strI C (Rest := fun r M1 => r = 1 ∧ M1 = M) [] me_yJ0_isLatin1_aae02 rfl lk_RJ0_492 (ct_isLatin1 hw ⟨rfl, rfl⟩) (by decide) hT.1 rfl rfl (Nat.le_of_ble_eq_true rfl) (tk T_cJ0_charAt_5068e 1 rfl) hr (fun r M1 hp => ?_)
  obtain ⟨rfl, rfl⟩ := hp
  refine a_if_eq C.1 16 (tk T_cJ0_charAt_5068e 2 rfl) rfl (fun c => absurd c (by decide)) (fun c => ?_)
  refine a_aload_n C.1 (tk T_cJ0_charAt_5068e 3 rfl) rfl ?_
  refine s_getf C hT.2.2.1 fs_9 (tk T_cJ0_charAt_5068e 4 rfl) ?_
  refine a_iload_n C.1 (tk T_cJ0_charAt_5068e 5 rfl) rfl ?_
  refine s_statI C (Rest := fun r M1 => r = i2c (wch j x.toNatClampNeg &&& 255) ∧ post r M1) [.ref (sk (o + 10 + j)), .int x] me_yJ1_charAt_3b067 lk_RJ0_495 (ct_lat hw hx hx2 ⟨rfl, h⟩) (by decide) rfl rfl (Nat.le_of_ble_eq_true rfl) (tk T_cJ0_charAt_5068e 6 rfl) hr (fun r M2 hp => ?_)
  obtain ⟨rfl, hp⟩ := hp
  exact hR _ _ _ _ (tk T_cJ0_charAt_5068e 7 rfl) (pk_nc _) hp
end STRM
def P_len (j : Nat) (post : Int32 → Mem → Prop) (M : Mem) : Prop := post (wlen j >>> ((0 : Int32) &&& 31)) M
def P_chr (j : Nat) (post : Int32 → Mem → Prop) (x : Int32) (M : Mem) : Prop := vp_in x (WL.getD j 0) ∧ x < wlen j ∧ post (i2c (wch j x.toNatClampNeg &&& 255)) M
theorem ct_lenP {l : Launch} {g : GT} {lay : List CD} {sk : Nat → Nat} {M : Mem} {post : Int32 → Mem → Prop} {o j : Nat} (hw : wok o j) (h : P_len j post M) : SI l g lay sk yJ0_length_8abf5 cJ0_length_8abf5 1 (some .int) 1 [.ref (sk (o + j))] M post := ct_length hw h
theorem ct_chrP {l : Launch} {g : GT} {lay : List CD} {sk : Nat → Nat} {M : Mem} {post : Int32 → Mem → Prop} {o j : Nat} {x : Int32} (hw : wok o j) (h : P_chr j post x M) : SI l g lay sk yJ0_charAt_5068e cJ0_charAt_5068e 2 (some .char) 3 [.ref (sk (o + j)), .int x] M post := ct_charAt hw h.1 h.2.1 h.2.2
