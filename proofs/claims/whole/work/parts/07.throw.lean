/-! METHODS THAT MAY THROW: what they take as given, their contracts, their rows -/
/-- the ten words of claims: their texts, lengths, bytes; their entries in the two class files -/
def WT (i : Nat) : String := ["or", "and", "not", "sure", "may", "sets", "fewest", "readings", "ghosts", "laws"].getD i ""
def WL : List Nat := [2, 3, 3, 4, 3, 4, 6, 8, 6, 4]
def WB : List (List Int32) := [[111, 114], [97, 110, 100], [110, 111, 116], [115, 117, 114, 101], [109, 97, 121], [115, 101, 116, 115], [102, 101, 119, 101, 115, 116], [114, 101, 97, 100, 105, 110, 103, 115], [103, 104, 111, 115, 116, 115], [108, 97, 119, 115]]
def RI (i : Nat) : Nat := [84, 90, 92, 94, 96, 101, 103, 105, 107, 109].getD i 0
def MI (i : Nat) : Nat := [363, 358, 343, 351, 353, 324, 326, 328, 329, 331].getD i 0
/-- two statics of the JDK, the words at their addresses: sk (10 + i) a String of the class's, sk (20 + i) its bytes; sk (30 + i), sk (40 + i) the reference's -/
def SXt (sk : Nat → Nat) (A : Nat → Prop) (U : State) (H : Heap) : Prop :=
  va_Z "java/lang/String" "COMPACT_STRINGS" "Z" (.int 1) A U H ∧ va_Zq "jdk/internal/util/Preconditions" "SIOOBE_FORMATTER" "Ljava/util/function/BiFunction;" A U H ∧
  vk_S 10 WL WB (fun i => sk (10 + i)) (fun i => sk (20 + i)) A U H ∧ vk_S 10 WL WB (fun i => sk (30 + i)) (fun i => sk (40 + i)) A U H ∧
  (∀ i, i < 10 → vk_R RX6 (RI i) (WT i) (sk (10 + i)) U) ∧ ∀ i, i < 10 → vk_R RX12 (MI i) (WT i) (sk (30 + i)) U
theorem SXt.kept {sk : Nat → Nat} {A : Nat → Prop} {U : State} {H H1 : Heap} (h : SXt sk A U H) (hq : ∀ a : Nat, a < H.size → ¬ A a → H1[a]? = H[a]?) : SXt sk A U H1 :=
  ⟨h.1.kept hq, h.2.1.kept hq, h.2.2.1.kept hq, h.2.2.2.1.kept hq, h.2.2.2.2⟩
theorem SXt.narrow {sk : Nat → Nat} {A B : Nat → Prop} {U : State} {H : Heap} (h : SXt sk A U H) (hq : ∀ q, B q → A q) : SXt sk B U H :=
  ⟨h.1.narrow hq, h.2.1.narrow hq, h.2.2.1.narrow hq, h.2.2.2.1.narrow hq, h.2.2.2.2⟩
theorem SXt.warm {sk : Nat → Nat} {A : Nat → Prop} {s U : State} {H : Heap} (hW : s.WarmedH U.vm) (h : SXt sk A s H) : SXt sk A U H :=
  ⟨h.1.moved hW.alike, h.2.1.moved hW.alike, h.2.2.1.moved hW.alike, h.2.2.2.1.moved hW.alike, fun i hi => (h.2.2.2.2.1 i hi).warm hW, fun i hi => (h.2.2.2.2.2 i hi).warm hW⟩
theorem SXt.same {sk : Nat → Nat} {A : Nat → Prop} {s U : State} {H : Heap} (hW : U.vm = s.vm) (h : SXt sk A s H) : SXt sk A U H :=
  ⟨h.1.moved (hW ▸ Vm.Alike.refl _), h.2.1.moved (hW ▸ Vm.Alike.refl _), h.2.2.1.moved (hW ▸ Vm.Alike.refl _), h.2.2.2.1.moved (hW ▸ Vm.Alike.refl _), fun i hi => (h.2.2.2.2.1 i hi).same hW, fun i hi => (h.2.2.2.2.2 i hi).same hW⟩
/-- no stack traces; two statics of Throwable; the four texts; the words -/
def TX (l : Launch) (sk : Nat → Nat) (A : Nat → Prop) (U : State) (H : Heap) : Prop :=
  l.stackTraces = false ∧ vx_Zq Bundle.tN "UNASSIGNED_STACK" Bundle.steD A U H ∧ vx_Zq Bundle.tN "SUPPRESSED_SENTINEL" Bundle.listD A U H ∧
  vk_R RX11 430 "not as the document allows" (sk 0) U ∧ vk_R RX11 437 "there is none such" (sk 1) U ∧ vk_R RX11 442 "there are as many as may be" (sk 2) U ∧ vk_R RX11 447 "nothing is told by this number" (sk 3) U ∧ SXt sk A U H
theorem TX.kept {l : Launch} {sk : Nat → Nat} {A : Nat → Prop} {U : State} {H H1 : Heap} (h : TX l sk A U H) (hq : ∀ a : Nat, a < H.size → ¬ A a → H1[a]? = H[a]?) : TX l sk A U H1 :=
  ⟨h.1, h.2.1.kept hq, h.2.2.1.kept hq, h.2.2.2.1, h.2.2.2.2.1, h.2.2.2.2.2.1, h.2.2.2.2.2.2.1, h.2.2.2.2.2.2.2.kept hq⟩
theorem TX.narrow {l : Launch} {sk : Nat → Nat} {A B : Nat → Prop} {U : State} {H : Heap} (h : TX l sk A U H) (hq : ∀ q, B q → A q) : TX l sk B U H :=
  ⟨h.1, h.2.1.narrow hq, h.2.2.1.narrow hq, h.2.2.2.1, h.2.2.2.2.1, h.2.2.2.2.2.1, h.2.2.2.2.2.2.1, h.2.2.2.2.2.2.2.narrow hq⟩
theorem TX.warm {l : Launch} {sk : Nat → Nat} {A : Nat → Prop} {s U : State} {H : Heap} (hW : s.WarmedH U.vm) (h : TX l sk A s H) : TX l sk A U H :=
  ⟨h.1, h.2.1.moved hW.alike, h.2.2.1.moved hW.alike, h.2.2.2.1.warm hW, h.2.2.2.2.1.warm hW, h.2.2.2.2.2.1.warm hW, h.2.2.2.2.2.2.1.warm hW, h.2.2.2.2.2.2.2.warm hW⟩
theorem TX.same {l : Launch} {sk : Nat → Nat} {A : Nat → Prop} {s U : State} {H : Heap} (hW : U.vm = s.vm) (h : TX l sk A s H) : TX l sk A U H :=
  ⟨h.1, h.2.1.moved (hW ▸ Vm.Alike.refl _), h.2.2.1.moved (hW ▸ Vm.Alike.refl _), h.2.2.2.1.same hW, h.2.2.2.2.1.same hW, h.2.2.2.2.2.1.same hW, h.2.2.2.2.2.2.1.same hW, h.2.2.2.2.2.2.2.same hW⟩
def XCf (g : GT) (lay : List CD) (ex : String → Mem → Prop) (A : Nat → Prop) : String → State → State → Prop := vx_X (S := Mem) (fun _ => True) (fun E u t => ex E u ∧ wP g lay u t.heap) A
abbrev rmX (h n : Nat) : Room := { frames := h, cells := n, slots := 6 * n, locals := 64 * h }
abbrev pcX (l : Launch) (g : GT) (lay : List CD) (sk : Nat → Nat) (M : Mem) (vs : List Value) (sz : Nat) : Array Value → State → Prop := va_Pc vs (fun U => U.heap.size = sz ∧ PW g lay M U ∧ TX l sk (frW g lay M sz) U U.heap)
def XI (l : Launch) (g : GT) (lay : List CD) (sk : Nat → Nat) (y : MethodName) (bb : ByteArray) (mL : Nat) (ret : Option FieldType) (h n : Nat) (vs : List Value) (M : Mem) (post : Int32 → Mem → Prop) (ex : String → Mem → Prop) : Prop :=
  ∀ sz, vx_Met l y (.code y bb mL ret :: GW) (rmX h n) (pcX l g lay sk M vs sz) (va_Qi post (fun u t => wP g lay u t.heap) (frW g lay M sz)) (XCf g lay ex (frW g lay M sz)) n (6 * n) (frW g lay M sz)
def XV (l : Launch) (g : GT) (lay : List CD) (sk : Nat → Nat) (y : MethodName) (bb : ByteArray) (mL : Nat) (ret : Option FieldType) (h n : Nat) (vs : List Value) (M : Mem) (post : Mem → Prop) (ex : String → Mem → Prop) : Prop :=
  ∀ sz, vx_Met l y (.code y bb mL ret :: GW) (rmX h n) (pcX l g lay sk M vs sz) (va_Qv post (fun u t => wP g lay u t.heap) (frW g lay M sz)) (XCf g lay ex (frW g lay M sz)) n (6 * n) (frW g lay M sz)
def CxX (X : FX) (g : GT) (lay : List CD) (A : Nat → Prop) (b : ByteArray) (nL : Nat) (own : String) (h n : Nat) (sk : Nat → Nat) : Prop :=
  Cx X g lay A b nL own h ∧ TX X.2.1 sk A (xs X) (xs X).heap ∧ n ≤ X.2.2.2.1.cells ∧ 6 * n ≤ X.2.2.2.1.slots
/-- a throw that goes out of this frame -/
def ThX (X : FX) (g : GT) (lay : List CD) (A : Nat → Prop) (n : Nat) (Z : State → Prop) (ex : String → Mem → Prop) : Prop :=
  ∀ (E : String) (M : Mem) (H : Heap) (locs : List Loc) (ls : Array Slot) (rest : List Value) (pc : Nat) (q : Addr) (ce : Cell) (kc ks : Nat), kc ≤ n → ks ≤ 6 * n → ex E M → wP g lay M H → va_S A (xs X).heap H locs → H[q]? = some ce → ce.vm = .none → (xs X).vm.findClass E = some ce.cls →
    vx_W X.1 X.2.1 X.2.2.1 X.2.2.2.1 (xs X) X.2.2.2.2.2.1 X.2.2.2.2.2.2.1 X.2.2.2.2.2.2.2.1 X.2.2.2.2.2.2.2.2.1 X.2.2.2.2.2.2.2.2.2 H locs kc ks Z (xF X pc ls rest) q
theorem pcX_blind {l : Launch} {g : GT} {lay : List CD} {sk : Nat → Nat} {M : Mem} {vs : List Value} {sz : Nat} : FrameBlind (pcX l g lay sk M vs sz) := fun a U f mk q => by
  obtain ⟨h0, h1, ⟨h2, h3, h4, h5⟩, h6⟩ := q
  exact ⟨h0, h1, ⟨h2, va_K.moved (u := U) (U := U.calling f mk a) (Vm.Alike.refl U.vm) h3, NW.same (s := U) (U := U.calling f mk a) rfl h4, h5⟩, TX.same (s := U) (U := U.calling f mk a) rfl h6⟩
section ATX
variable {X : FX} {g : GT} {lay : List CD} {A : Nat → Prop} {b : ByteArray} {nL kc ks h n : Nat} {own : String} {Z : State → Prop} {pc : Nat} {lv : List (Nat × Value)} {st : List Value} {M : Mem} {sk : Nat → Nat}
theorem cxx_pre (C : CxX X g lay A b nL own h n sk) {H : Heap} {locs : List Loc} {vs : List Value} (hP : wP g lay M H) (hS : va_S A (xs X).heap H locs) : ∀ U : State, U.heap = H → (xs X).WarmedH U.vm → pcX X.2.1 g lay sk M vs H.size vs.toArray U := by
  intro U hU hW
  obtain ⟨h0, h1, h2⟩ := cx_pre (vs := vs) C.1 hP U hU hW
  refine ⟨h0, h1, h2, ?_⟩
  rw [hU]
  exact ((C.2.1.kept hS.2.1).narrow (cx_frees (M := M) C.1 hS)).warm hW
theorem cxx_callB (C : CxX X g lay A b nL own h n sk) {y : MethodName} {bb : ByteArray} {mL np idx h2 n2 : Nat} {ret : Option FieldType} (hy : MeB y bb mL ret np) (hl : Cond.methodLink own idx y ∈ GW) (hh : h2 + 1 ≤ h) :
    CallB X.2.2.2.1 (xs X) X.2.2.2.2.2.2.1 own idx y bb mL ret (.code y bb mL ret :: GW) (rmX h2 n2) n2 (6 * n2) np := by
  obtain ⟨h3, h4, h5, h6⟩ := hy
  have r1 := C.1.2.2.2.2.2.2.2.2.2.1
  have r2 := C.1.2.2.2.2.2.2.2.2.2.2
  exact callB_of np C.1.2.2.2.2.1 (gw_good0 h4) rfl rfl rfl (C.1.2.2.2.2.1 _ h3) (C.1.2.2.2.2.1 _ hl) h5 ⟨by show h2 + 1 ≤ _; omega, by show 8 + (mL + 11) + 64 * h2 ≤ _; omega⟩
theorem x_callI (C : CxX X g lay A b nL own h n sk) {ex : String → Mem → Prop} (hT : ThX X g lay A n Z ex) {y : MethodName} {bb : ByteArray} {mL np idx h2 n2 q ci N : Nat} {ret : Option FieldType} {T : u_T} {fl : List (Option Nat)} {stk : List Value} (As : List Value) {Rest : Int32 → Mem → Prop} (hy : MeV y bb mL ret np) (hlk : Cond.methodLink own idx y ∈ GW) (hct : XI X.2.1 g lay sk y bb mL ret h2 n2 (.ref (ad g q) :: As) M Rest ex) (hh : h2 + 1 ≤ h) (hq : lay[q]? = some (4, ci, fl)) (hcl : vwCl[ci]? = some (y.cls, T, N)) (hstk : stk = As.reverse ++ .ref (ad g q) :: st) (hn : As.length = np) (hw : (st.map fun v => v.category).sum ≤ 8) (hd : decode b pc = .ok (.invokevirtual idx, 3)) (hk : kc + n2 ≤ n ∧ ks + 6 * n2 ≤ 6 * n) (K : ∀ (r : Int32) (M1 : Mem), Rest r M1 → AtX X g lay A nL (kc + n2) (ks + 6 * n2) Z (pc + 3) lv (.int r :: st) M1) : AtX X g lay A nL kc ks Z pc lv stk M := by
  subst hstk
  intro H locs ls hP hS hl
  have hFc := cx_frees (M := M) C.1 hS
  exact vx_calli (vx_runV (As := As) (rest := st) (cx_fix C.1) (hct H.size) ⟨cxx_callB C hy.1 hlk hh, C.1.2.2.2.2.1 _ hy.2.1, C.1.2.2.2.2.1 _ hy.2.2⟩ ⟨pcX_blind, va_recv C.1.2.2.2.2.2.1 hP hcl (wl_get (g := g) (M := M) hq), cxx_pre C hP hS⟩ rfl hn hl.size rfl (lv_room hw) hd ⟨Nat.le_trans hk.1 C.2.2.1, Nat.le_trans hk.2 C.2.2.2⟩) hS (fun q _ h => hFc q h) hFc (fun q _ h => hFc q h) (fun E ce q9 u t H1 locs1 ht hvm _ hB hz1 hk1 hS1 hq hv hc => hT E u H1 locs1 ls st pc q9 ce _ _ hk.1 hk.2 hB.1 (by rw [← ht]; exact hB.2) hS1 hq hv hc) (fun r u t H1 locs1 ht hvm hpost hB hz1 hk1 hS1 => K r u hpost H1 locs1 ls (by rw [← ht]; exact hB) hS1 hl)
theorem x_statI (C : CxX X g lay A b nL own h n sk) {ex : String → Mem → Prop} (hT : ThX X g lay A n Z ex) {y : MethodName} {bb : ByteArray} {mL np idx h2 n2 : Nat} {ret : Option FieldType} {stk : List Value} (As : List Value) {Rest : Int32 → Mem → Prop} (hy : MeS y bb mL ret np) (hlk : Cond.methodLink own idx y ∈ GW) (hct : XI X.2.1 g lay sk y bb mL ret h2 n2 As M Rest ex) (hh : h2 + 1 ≤ h) (hstk : stk = As.reverse ++ st) (hn : As.length = np) (hw : (st.map fun v => v.category).sum ≤ 8) (hd : decode b pc = .ok (.invokestatic idx, 3)) (hk : kc + n2 ≤ n ∧ ks + 6 * n2 ≤ 6 * n) (K : ∀ (r : Int32) (M1 : Mem), Rest r M1 → AtX X g lay A nL (kc + n2) (ks + 6 * n2) Z (pc + 3) lv (.int r :: st) M1) : AtX X g lay A nL kc ks Z pc lv stk M := by
  subst hstk
  intro H locs ls hP hS hl
  have hFc := cx_frees (M := M) C.1 hS
  exact vx_calli (vx_runS (As := As) (rest := st) (cx_fix C.1) (hct H.size) ⟨cxx_callB C hy.1 hlk hh, C.1.2.2.2.2.1 _ hy.2⟩ ⟨pcX_blind, cxx_pre C hP hS⟩ rfl hn hl.size rfl (lv_room hw) hd ⟨Nat.le_trans hk.1 C.2.2.1, Nat.le_trans hk.2 C.2.2.2⟩) hS (fun q _ h => hFc q h) hFc (fun q _ h => hFc q h) (fun E ce q9 u t H1 locs1 ht hvm _ hB hz1 hk1 hS1 hq hv hc => hT E u H1 locs1 ls st pc q9 ce _ _ hk.1 hk.2 hB.1 (by rw [← ht]; exact hB.2) hS1 hq hv hc) (fun r u t H1 locs1 ht hvm hpost hB hz1 hk1 hS1 => K r u hpost H1 locs1 ls (by rw [← ht]; exact hB) hS1 hl)
theorem x_callV (C : CxX X g lay A b nL own h n sk) {ex : String → Mem → Prop} (hT : ThX X g lay A n Z ex) {y : MethodName} {bb : ByteArray} {mL np idx h2 n2 q ci N : Nat} {ret : Option FieldType} {T : u_T} {fl : List (Option Nat)} {stk : List Value} (As : List Value) {Rest : Mem → Prop} (hy : MeV y bb mL ret np) (hlk : Cond.methodLink own idx y ∈ GW) (hct : XV X.2.1 g lay sk y bb mL ret h2 n2 (.ref (ad g q) :: As) M Rest ex) (hh : h2 + 1 ≤ h) (hq : lay[q]? = some (4, ci, fl)) (hcl : vwCl[ci]? = some (y.cls, T, N)) (hstk : stk = As.reverse ++ .ref (ad g q) :: st) (hn : As.length = np) (hw : (st.map fun v => v.category).sum ≤ 8) (hd : decode b pc = .ok (.invokevirtual idx, 3)) (hk : kc + n2 ≤ n ∧ ks + 6 * n2 ≤ 6 * n) (K : ∀ (M1 : Mem), Rest M1 → AtX X g lay A nL (kc + n2) (ks + 6 * n2) Z (pc + 3) lv st M1) : AtX X g lay A nL kc ks Z pc lv stk M := by
  subst hstk
  intro H locs ls hP hS hl
  have hFc := cx_frees (M := M) C.1 hS
  exact vx_callv (vx_runV (As := As) (rest := st) (cx_fix C.1) (hct H.size) ⟨cxx_callB C hy.1 hlk hh, C.1.2.2.2.2.1 _ hy.2.1, C.1.2.2.2.2.1 _ hy.2.2⟩ ⟨pcX_blind, va_recv C.1.2.2.2.2.2.1 hP hcl (wl_get (g := g) (M := M) hq), cxx_pre C hP hS⟩ rfl hn hl.size rfl (lv_room hw) hd ⟨Nat.le_trans hk.1 C.2.2.1, Nat.le_trans hk.2 C.2.2.2⟩) hS (fun q _ h => hFc q h) hFc (fun q _ h => hFc q h) (fun E ce q9 u t H1 locs1 ht hvm _ hB hz1 hk1 hS1 hq hv hc => hT E u H1 locs1 ls st pc q9 ce _ _ hk.1 hk.2 hB.1 (by rw [← ht]; exact hB.2) hS1 hq hv hc) (fun u t H1 locs1 ht hvm hpost hB hz1 hk1 hS1 => K u hpost H1 locs1 ls (by rw [← ht]; exact hB) hS1 hl)
theorem x_statV (C : CxX X g lay A b nL own h n sk) {ex : String → Mem → Prop} (hT : ThX X g lay A n Z ex) {y : MethodName} {bb : ByteArray} {mL np idx h2 n2 : Nat} {ret : Option FieldType} {stk : List Value} (As : List Value) {Rest : Mem → Prop} (hy : MeS y bb mL ret np) (hlk : Cond.methodLink own idx y ∈ GW) (hct : XV X.2.1 g lay sk y bb mL ret h2 n2 As M Rest ex) (hh : h2 + 1 ≤ h) (hstk : stk = As.reverse ++ st) (hn : As.length = np) (hw : (st.map fun v => v.category).sum ≤ 8) (hd : decode b pc = .ok (.invokestatic idx, 3)) (hk : kc + n2 ≤ n ∧ ks + 6 * n2 ≤ 6 * n) (K : ∀ (M1 : Mem), Rest M1 → AtX X g lay A nL (kc + n2) (ks + 6 * n2) Z (pc + 3) lv st M1) : AtX X g lay A nL kc ks Z pc lv stk M := by
  subst hstk
  intro H locs ls hP hS hl
  have hFc := cx_frees (M := M) C.1 hS
  exact vx_callv (vx_runS (As := As) (rest := st) (cx_fix C.1) (hct H.size) ⟨cxx_callB C hy.1 hlk hh, C.1.2.2.2.2.1 _ hy.2⟩ ⟨pcX_blind, cxx_pre C hP hS⟩ rfl hn hl.size rfl (lv_room hw) hd ⟨Nat.le_trans hk.1 C.2.2.1, Nat.le_trans hk.2 C.2.2.2⟩) hS (fun q _ h => hFc q h) hFc (fun q _ h => hFc q h) (fun E ce q9 u t H1 locs1 ht hvm _ hB hz1 hk1 hS1 hq hv hc => hT E u H1 locs1 ls st pc q9 ce _ _ hk.1 hk.2 hB.1 (by rw [← ht]; exact hB.2) hS1 hq hv hc) (fun u t H1 locs1 ht hvm hpost hB hz1 hk1 hS1 => K u hpost H1 locs1 ls (by rw [← ht]; exact hB) hS1 hl)
theorem x_widen {k2 s2 : Nat} (h1 : kc ≤ k2) (h2 : ks ≤ s2) (K : AtX X g lay A nL k2 s2 Z pc lv st M) : AtX X g lay A nL kc ks Z pc lv st M := fun H locs ls hP hS hl => W.widen h1 h2 (K H locs ls hP hS hl)
end ATX
set_option maxHeartbeats 1000000 in
theorem xi_of {l : Launch} {g : GT} {lay : List CD} {sk : Nat → Nat} {y : MethodName} {bb : ByteArray} {mL h n : Nat} {vs : List Value} {M : Mem} {post : Int32 → Mem → Prop} {ex : String → Mem → Prop} (hy : plainName y.cls = true) (hc : (lg_sl vs).length ≤ mL)
    (body : ∀ (X : FX) (A : Nat → Prop) (Z : State → Prop), X.2.1 = l → CxX X g lay A bb mL y.cls h n sk → RetI X g lay A bb mL n (6 * n) Z post → ThX X g lay A n Z ex →
      (∀ (H : Heap) (locs : List Loc) (pc kc ks : Nat) (ls : Array Slot) (rest : List Value), Z = vx_MQ X.2.2.2.2.2.2.2.1 (va_Qi post (fun u t => wP g lay u t.heap) A) (XCf g lay ex A) X.2.2.2.2.2.2.1 (xs X) n (6 * n) A ∧ (∀ x ∈ X.2.2.2.2.2.2.2.2.2.exceptionTable.toList, covers x pc = false) ∧ X.2.2.2.2.2.2.2.2.1.locks = false) → AtX X g lay A mL 0 0 Z 0 (lv_args 0 vs) [] M) : XI l g lay sk y bb mL (some .int) h n vs M post ex := by
  intro sz
  refine vx_ofW (cc := bb) (maxL := mL) (ret := (some .int)) hy rfl ?_
  intro p e s m args below meth c s₁ B hml hno hv
  obtain ⟨rfl, hsz, ⟨hP, hK, hN, hD⟩, hTX⟩ := hv
  subst hsz
  have hx := B.exec
  have hb := B.bytes
  have hr := B.returns
  have hts := atoms_spec (ws := .code y bb mL (some .int) :: GW) B.pre
  have hown : s.vm.findClass y.cls = some m.cls := findClass_of_methodNamed B.named
  have hlocks := B.notSynchronized
  generalize hAe : frW g lay M s.heap.size = A at hTX ⊢
  have hin : ∀ k, k < lay.length → A (ad g k) := fun k hk => by
    rw [← hAe]
    exact Or.inl ⟨k, _, wl_get (M := M) (List.getElem?_eq_getElem hk)⟩
  have hA : ∀ q : Nat, s.heap.size ≤ q → A q := fun q h => by rw [← hAe]; exact Or.inr h
  have hAd : AdOK g lay.length A := AdOK.of hD hin
  have hl := lv_entry vs (n := mL) hc
  rw [lg_entry_eq]
  generalize (lg_sl vs ++ List.replicate (mL - (lg_sl vs).length) Slot.unset).toArray = ls at hl ⊢
  refine body (p, l, e, _, s, m, _, below, meth, c) A _ rfl ⟨⟨hx, hb, hml, hown, fun w hw => hts w (List.mem_cons_of_mem _ hw), hK, hN, hAd, hA, Nat.le_refl _, Nat.le_refl _⟩, hTX, Nat.le_refl _, Nat.le_refl _⟩ ?_ ?_ ?_ s.heap [] ls hP va_S.rf ⟨_, hl, fun i v hi => lookup_in _ hi⟩
  · intro v M1 pc lv hd hpost H locs ls2 hP1 hS1 hl1
    exact vx_ret (W.iret (v := v) hx hb hr (fun t ht hW => ⟨⟨v, M1, rfl, hpost, by show wP g lay M1 t.heap; rw [ht]; exact hP1⟩, hS1.F ht⟩) hS1.2.2 hd)
  · intro E M1 H locs ls2 rest pc q ce kc ks hk1 hk2 hex hP1 hS1 hq hv hc
    exact vx_out (fun x hx => (hno x hx).elim) hlocks hq hv hc (fun t ht hvm => ⟨M1, trivial, ⟨hex, by show wP g lay M1 t.heap; rw [ht]; exact hP1⟩, hS1.F ht⟩) hS1.2.2 hk1 hk2
  · intro H locs pc kc ks ls2 rest
    exact ⟨rfl, fun x hx => (hno x hx).elim, hlocks⟩
set_option maxHeartbeats 1000000 in
theorem xz_of {l : Launch} {g : GT} {lay : List CD} {sk : Nat → Nat} {y : MethodName} {bb : ByteArray} {mL h n : Nat} {vs : List Value} {M : Mem} {post : Int32 → Mem → Prop} {ex : String → Mem → Prop} (hy : plainName y.cls = true) (hc : (lg_sl vs).length ≤ mL)
    (body : ∀ (X : FX) (A : Nat → Prop) (Z : State → Prop), X.2.1 = l → CxX X g lay A bb mL y.cls h n sk → RetZ X g lay A bb mL n (6 * n) Z post → ThX X g lay A n Z ex →
      (∀ (H : Heap) (locs : List Loc) (pc kc ks : Nat) (ls : Array Slot) (rest : List Value), Z = vx_MQ X.2.2.2.2.2.2.2.1 (va_Qi post (fun u t => wP g lay u t.heap) A) (XCf g lay ex A) X.2.2.2.2.2.2.1 (xs X) n (6 * n) A ∧ (∀ x ∈ X.2.2.2.2.2.2.2.2.2.exceptionTable.toList, covers x pc = false) ∧ X.2.2.2.2.2.2.2.2.1.locks = false) → AtX X g lay A mL 0 0 Z 0 (lv_args 0 vs) [] M) : XI l g lay sk y bb mL (some .boolean) h n vs M post ex := by
  intro sz
  refine vx_ofW (cc := bb) (maxL := mL) (ret := (some .boolean)) hy rfl ?_
  intro p e s m args below meth c s₁ B hml hno hv
  obtain ⟨rfl, hsz, ⟨hP, hK, hN, hD⟩, hTX⟩ := hv
  subst hsz
  have hx := B.exec
  have hb := B.bytes
  have hr := B.returns
  have hts := atoms_spec (ws := .code y bb mL (some .boolean) :: GW) B.pre
  have hown : s.vm.findClass y.cls = some m.cls := findClass_of_methodNamed B.named
  have hlocks := B.notSynchronized
  generalize hAe : frW g lay M s.heap.size = A at hTX ⊢
  have hin : ∀ k, k < lay.length → A (ad g k) := fun k hk => by
    rw [← hAe]
    exact Or.inl ⟨k, _, wl_get (M := M) (List.getElem?_eq_getElem hk)⟩
  have hA : ∀ q : Nat, s.heap.size ≤ q → A q := fun q h => by rw [← hAe]; exact Or.inr h
  have hAd : AdOK g lay.length A := AdOK.of hD hin
  have hl := lv_entry vs (n := mL) hc
  rw [lg_entry_eq]
  generalize (lg_sl vs ++ List.replicate (mL - (lg_sl vs).length) Slot.unset).toArray = ls at hl ⊢
  refine body (p, l, e, _, s, m, _, below, meth, c) A _ rfl ⟨⟨hx, hb, hml, hown, fun w hw => hts w (List.mem_cons_of_mem _ hw), hK, hN, hAd, hA, Nat.le_refl _, Nat.le_refl _⟩, hTX, Nat.le_refl _, Nat.le_refl _⟩ ?_ ?_ ?_ s.heap [] ls hP va_S.rf ⟨_, hl, fun i v hi => lookup_in _ hi⟩
  · intro v M1 pc lv hd hpost H locs ls2 hP1 hS1 hl1
    exact vx_ret (W.zret (v := v) (ty := .boolean) hx hb hr (nar_z hpost.1) (fun t ht hW => ⟨⟨v, M1, rfl, hpost.2, by show wP g lay M1 t.heap; rw [ht]; exact hP1⟩, hS1.F ht⟩) hS1.2.2 hd)
  · intro E M1 H locs ls2 rest pc q ce kc ks hk1 hk2 hex hP1 hS1 hq hv hc
    exact vx_out (fun x hx => (hno x hx).elim) hlocks hq hv hc (fun t ht hvm => ⟨M1, trivial, ⟨hex, by show wP g lay M1 t.heap; rw [ht]; exact hP1⟩, hS1.F ht⟩) hS1.2.2 hk1 hk2
  · intro H locs pc kc ks ls2 rest
    exact ⟨rfl, fun x hx => (hno x hx).elim, hlocks⟩
set_option maxHeartbeats 1000000 in
theorem xv_of {l : Launch} {g : GT} {lay : List CD} {sk : Nat → Nat} {y : MethodName} {bb : ByteArray} {mL h n : Nat} {vs : List Value} {M : Mem} {post : Mem → Prop} {ex : String → Mem → Prop} (hy : plainName y.cls = true) (hc : (lg_sl vs).length ≤ mL)
    (body : ∀ (X : FX) (A : Nat → Prop) (Z : State → Prop), X.2.1 = l → CxX X g lay A bb mL y.cls h n sk → RetV X g lay A bb mL n (6 * n) Z post → ThX X g lay A n Z ex →
      (∀ (H : Heap) (locs : List Loc) (pc kc ks : Nat) (ls : Array Slot) (rest : List Value), Z = vx_MQ X.2.2.2.2.2.2.2.1 (va_Qv post (fun u t => wP g lay u t.heap) A) (XCf g lay ex A) X.2.2.2.2.2.2.1 (xs X) n (6 * n) A ∧ (∀ x ∈ X.2.2.2.2.2.2.2.2.2.exceptionTable.toList, covers x pc = false) ∧ X.2.2.2.2.2.2.2.2.1.locks = false) → AtX X g lay A mL 0 0 Z 0 (lv_args 0 vs) [] M) : XV l g lay sk y bb mL none h n vs M post ex := by
  intro sz
  refine vx_ofW (cc := bb) (maxL := mL) (ret := none) hy rfl ?_
  intro p e s m args below meth c s₁ B hml hno hv
  obtain ⟨rfl, hsz, ⟨hP, hK, hN, hD⟩, hTX⟩ := hv
  subst hsz
  have hx := B.exec
  have hb := B.bytes
  have hr := B.returns
  have hts := atoms_spec (ws := .code y bb mL none :: GW) B.pre
  have hown : s.vm.findClass y.cls = some m.cls := findClass_of_methodNamed B.named
  have hlocks := B.notSynchronized
  generalize hAe : frW g lay M s.heap.size = A at hTX ⊢
  have hin : ∀ k, k < lay.length → A (ad g k) := fun k hk => by
    rw [← hAe]
    exact Or.inl ⟨k, _, wl_get (M := M) (List.getElem?_eq_getElem hk)⟩
  have hA : ∀ q : Nat, s.heap.size ≤ q → A q := fun q h => by rw [← hAe]; exact Or.inr h
  have hAd : AdOK g lay.length A := AdOK.of hD hin
  have hl := lv_entry vs (n := mL) hc
  rw [lg_entry_eq]
  generalize (lg_sl vs ++ List.replicate (mL - (lg_sl vs).length) Slot.unset).toArray = ls at hl ⊢
  refine body (p, l, e, _, s, m, _, below, meth, c) A _ rfl ⟨⟨hx, hb, hml, hown, fun w hw => hts w (List.mem_cons_of_mem _ hw), hK, hN, hAd, hA, Nat.le_refl _, Nat.le_refl _⟩, hTX, Nat.le_refl _, Nat.le_refl _⟩ ?_ ?_ ?_ s.heap [] ls hP va_S.rf ⟨_, hl, fun i v hi => lookup_in _ hi⟩
  · intro M1 pc lv hd hpost H locs ls2 hP1 hS1 hl1
    exact vx_ret (W.vret hx hb hr (fun t ht hW => ⟨⟨M1, rfl, hpost, by show wP g lay M1 t.heap; rw [ht]; exact hP1⟩, hS1.F ht⟩) hS1.2.2 hd)
  · intro E M1 H locs ls2 rest pc q ce kc ks hk1 hk2 hex hP1 hS1 hq hv hc
    exact vx_out (fun x hx => (hno x hx).elim) hlocks hq hv hc (fun t ht hvm => ⟨M1, trivial, ⟨hex, by show wP g lay M1 t.heap; rw [ht]; exact hP1⟩, hS1.F ht⟩) hS1.2.2 hk1 hk2
  · intro H locs pc kc ks ls2 rest
    exact ⟨rfl, fun x hx => (hno x hx).elim, hlocks⟩
/-- the four that throw: 'if (!b) throw new E(text)' -/
def P_want (E : String) (post : Mem → Prop) (ex : String → Mem → Prop) (x0 : Int32) (M : Mem) : Prop := (¬ x0 = 0 → post M) ∧ (x0 = 0 → ex E M)
set_option maxHeartbeats 1000000 in
theorem ct_want {l : Launch} {g : GT} {lay : List CD} {sk : Nat → Nat} {post : Mem → Prop} {ex : String → Mem → Prop} {x0 : Int32} {M : Mem} {y : MethodName} {bb : ByteArray} {E text : String} {ik is ic j : Nat} {tab : List (Nat × Instr × Nat)}
    (hy : plainName y.cls = true) (hT : tabOK bb tab = true) (he : tab = [(0, .iload_n 0, 1), (1, .ifCond .ne 14, 3), (4, .new ik, 3), (7, .dup, 1), (8, .ldc_w is, 3), (11, .invokespecial ic, 3), (14, .athrow, 1), (15, .return_, 1)])
    (hE : Bundle.fit E = true) (hk : Cond.classLink y.cls ik E ∈ GW) (hi : Cond.initialized E ∈ GW) (hstr : ∀ {A : Nat → Prop} {U : State} {H : Heap}, TX l sk A U H → vk_R y.cls is text (sk j) U)
    (hg : ∀ w ∈ (vx_atS y.cls ic E ["java/lang/RuntimeException", "java/lang/Exception"]).filter goodWord, w ∈ GW) (hng : ∀ w ∈ (vx_atS y.cls ic E ["java/lang/RuntimeException", "java/lang/Exception"]).filter (fun w => !goodWord w), w ∈ NWs)
    (hot : ∀ w ∈ Cond.classLink y.cls ik E :: Cond.initialized E :: vx_atS y.cls ic E ["java/lang/RuntimeException", "java/lang/Exception"], vx_ot w = true) (hn1 : Bundle.fit "java/lang/RuntimeException" = true) (hn2 : Bundle.fit "java/lang/Exception" = true)
    (h : P_want E post ex x0 M) : XV l g lay sk y bb 1 none 6 1 [.int x0] M post ex := by
  subst he
  refine xv_of hy (Nat.le_of_ble_eq_true rfl) (fun X A Z hl C hR hTh hZ => ?_)
  refine a_iload_n C.1 (tk hT 0 rfl) rfl ?_
  refine a_if_ne C.1 15 (tk hT 1 rfl) rfl (fun c => ?_) (fun c => ?_)
  · refine x_widen (k2 := 1) (s2 := 6) (by omega) (by omega) ?_
    exact hR _ _ _ (tk hT 7 rfl) (h.1 c)
  · intro H locs ls hP hS hl2
    obtain ⟨hZ, hno, hlk⟩ := hZ H locs 14 0 0 ls []
    rw [hZ]
    have hnw : ∀ w ∈ NWs, w.before X.2.2.2.2.2.2.1 (xs X) = true := fun w hw => by
      have h1 := C.1.2.2.2.2.2.2.1 w hw
      obtain ⟨-, h2⟩ := List.mem_filter.mp hw
      cases w <;> first | (simp at h2; done) | exact va_Nw.use rfl h1
    have hat : ∀ w ∈ vx_atS y.cls ic E ["java/lang/RuntimeException", "java/lang/Exception"], w.before X.2.2.2.2.2.2.1 (xs X) = true := vx_hat (fun w hw => C.1.2.2.2.2.1 w (hg w hw)) hng hnw
    have r1 := C.1.2.2.2.2.2.2.2.2.2.1
    have r2 := C.1.2.2.2.2.2.2.2.2.2.2
    have r3 := C.2.2.1
    have r4 := C.2.2.2
    subst hl
    refine vx_throwSW (pc := 4) (names := ["java/lang/RuntimeException", "java/lang/Exception"]) C.1.1 C.1.2.1 C.2.1.1 C.1.2.2.2.1 hE (fun n hn => ?_) (C.1.2.2.2.2.1 _ hk) (C.1.2.2.2.2.1 _ hi) (hstr C.2.1) hat hot C.2.1.2.1 C.2.1.2.2.1 hS (hl2.size.trans C.1.2.2.1.symm) (tk hT 2 rfl) (tk hT 3 rfl) (tk hT 4 rfl) (tk hT 5 rfl) (tk hT 6 rfl) hno ?_ ?_ ?_ ?_ hlk (fun t hvm hsz hq => ?_) hS.2.2 (by omega) (by omega)
    · simp only [List.mem_cons, List.not_mem_nil, or_false] at hn
      rcases hn with rfl | rfl
      · exact hn1
      · exact hn2
    · show 2 + 3 < _; omega
    · show 0 + (13 * (2 + 1) + 43) ≤ _; omega
    · omega
    · omega
    · refine ⟨M, trivial, ⟨h.2 c, ?_⟩, ?_⟩
      · show wP g lay M t.heap
        exact va_P.kept hP (fun k q hk => hq q.1 (hP k q hk).lt)
      · exact ⟨Nat.le_trans hS.1 hsz, fun q h1 h2 => by rw [hq q (Nat.lt_of_lt_of_le h1 hS.1)]; exact hS.2.1 q h1 h2⟩
