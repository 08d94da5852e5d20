/-! CALLS OUT OF A FRAME OVER MANY CELLS; THE LAW'S HELPERS -/
theorem subP {D : va_G} {cl : List vw_C} {pre w suf : va_W} {H : Heap} (h : va_P D cl (pre ++ w ++ suf) H) : va_P D cl w H := vp_iff.mpr (fun q hq => vp_iff.mp h q (List.mem_append_left _ (List.mem_append_right _ hq)))
theorem subD {A : Nat → Prop} {pre w suf : va_W} (h : va_D A (pre ++ w ++ suf)) : va_D A w := by
  rw [vd_iff] at *
  simp only [List.map_append, List.nodup_append] at h
  exact ⟨h.1.1.2.1, fun q hq => h.2 q (List.mem_append_left _ (List.mem_append_right _ hq))⟩
theorem subA {X : FX} {A : Nat → Prop} {pre w suf : va_W} {H : Heap} {locs : List Loc} (hA : ∀ q, (xs X).heap.size ≤ q → A q) (hD : va_D A (pre ++ w ++ suf)) (hS : va_S A (xs X).heap H locs) : ∀ q, va_A w H.size q → A q := by
  intro q hq
  rcases va_A_iff.mp hq with h1 | h1
  · obtain ⟨x, hx, e⟩ := List.mem_map.mp h1
    rw [← e]
    exact (vd_iff.mp (subD hD)).2 x hx
  · exact hA q (Nat.le_trans hS.1 h1)
theorem wl_addr {g : GT} {lay : List CD} {M M1 : Mem} : (wl g lay M).map Prod.fst = (wl g lay M1).map Prod.fst := by
  apply List.ext_getElem?
  intro k
  unfold wl
  rw [List.getElem?_map, List.getElem?_map, List.getElem?_mapIdx, List.getElem?_mapIdx]
  cases lay[k]? <;> rfl
/-- the same addresses, other contents -/
theorem dSame {A : Nat → Prop} {w w1 : va_W} {sz : Nat} (hD : va_D A w) (e : w1.map Prod.fst = w.map Prod.fst) : va_D (va_A w sz) w1 := by
  rw [vd_iff] at *
  refine ⟨by rw [e]; exact hD.1, fun q hq => va_A_iff.mpr (Or.inl ?_)⟩
  rw [← e]
  exact List.mem_map.mpr ⟨q, hq, rfl⟩
def EX4 : List String := [IAE, IOB, UOE, NSE]
def NC (U : State) : Prop := ∀ E ∈ EX4, ∀ T ∈ EX4, E ≠ T → va_Nc E T U
theorem NC.moved {u U : State} (hvm : u.vm.Alike U.vm) (h : NC u) : NC U := fun E hE T hT hne => (h E hE T hT hne).moved hvm
def ouE (cL : ClassId) (f : Nat → Int64) : va_E := .inl (cL, 1, .inr (.inl f))
def CxH (X : FX) (g : GT) (cL : ClassId) (A : Nat → Prop) (b : ByteArray) (nL : Nat) (own : String) (h nc ns : Nat) (sk : Nat → Nat) : Prop :=
  CxN X (g.1, g.2.1) (tys g ++ [(cL, .long)]) A b nL own h nc ns ∧ TX X.2.1 sk A (xs X) (xs X).heap ∧ NC (xs X)
section CALLN
variable {X : FX} {g : GT} {cL : ClassId} {lay : List CD} {pre suf ws : va_W} {A : Nat → Prop} {b : ByteArray} {nL kc ks h nc ns : Nat} {own : String} {Z : State → Prop} {pc : Nat} {lv : List (Nat × Value)} {st : List Value} {M : Mem} {sk : Nat → Nat}
theorem toCx (C : CxH X g cL A b nL own h nc ns sk) (hD : va_D A (pre ++ wl g lay M ++ suf)) : Cx X g lay A b nL own h := by
  obtain ⟨⟨c1, c2, c3, c4, c5, c6, c7, c8, c9, c10, c11, c12, c13⟩, cT, cN⟩ := C
  have hD2 := subD hD
  refine ⟨c1, c2, c3, c4, c5, c6.sub [0, 1, 2, 3] rfl, c7, AdOK.of hD2 (fun k hk => hD2.2 k _ (wl_get (List.getElem?_eq_getElem hk))), c8, c9, c10⟩
theorem toCxX (C : CxH X g cL A b nL own h nc ns sk) (hD : va_D A (pre ++ wl g lay M ++ suf)) : CxX X g lay A b nL own h 0 sk := ⟨toCx C hD, C.2.1, Nat.zero_le _, Nat.zero_le _⟩
theorem c_I (C : CxH X g cL A b nL own h nc ns sk) {y : MethodName} {bb : ByteArray} {mL n idx h2 q ci : Nat} {ret : Option FieldType} {T : u_T} {N : Nat} {fl : List (Option Nat)} {stk : List Value} (As : List Value) {Rest : Int32 → Mem → Prop} (hy : MeV y bb mL ret n) (hlk : Cond.methodLink own idx y ∈ GW) (hct : CI X.2.1 g lay y bb mL ret h2 (.ref (ad g q) :: As) M Rest) (hh : h2 + 1 ≤ h) (hq : lay[q]? = some (4, ci, fl)) (hcl : vwCl[ci]? = some (y.cls, T, N)) (hstk : stk = As.reverse ++ .ref (ad g q) :: st) (hn : As.length = n) (hw : (st.map fun v => v.category).sum ≤ 8) (hd : decode b pc = .ok (.invokevirtual idx, 3)) (hr : kc ≤ nc ∧ ks ≤ ns) (K : ∀ (r : Int32) (M1 : Mem), Rest r M1 → AtN X (g.1, g.2.1) (pre ++ wl g lay M1 ++ suf) A nL kc ks Z (pc + 3) lv (.int r :: st)) : AtN X (g.1, g.2.1) (pre ++ wl g lay M ++ suf) A nL kc ks Z pc lv stk := by
  subst hstk
  intro H locs ls hP hD hS hl
  have C' := toCx C hD
  have hPw : wP g lay M H := subP hP
  have hFc := cx_frees (M := M) C' hS
  refine va_calli (va_runV (As := As) (rest := st) (cx_fix C') (hct H.size) ⟨cx_callB C' hy.1 hlk hh, C'.2.2.2.2.1 _ hy.2.1, C'.2.2.2.2.1 _ hy.2.2⟩ ⟨pcW_blind, va_recv C'.2.2.2.2.2.1 hPw hcl (wl_get (g := g) (M := M) hq), cx_pre C' hPw⟩ rfl hn hl.size rfl (lv_room hw) hd ⟨Nat.le_trans hr.1 C.1.2.2.2.2.2.2.2.2.2.2.1, Nat.le_trans hr.2 C.1.2.2.2.2.2.2.2.2.2.2.2.1⟩) hS (fun q _ h => hFc q h) hFc (fun r u t H1 locs1 ht hvm hpost hB hz1 hk1 hS1 => ?_)
  have hj := fj hP hD (fun q hq => C.1.2.2.2.2.2.2.2.1 q (Nat.le_trans hS.1 hq)) hk1 (w1 := wl g lay u) (by rw [← ht]; exact hB) (dSame (subD hD) wl_addr)
  exact K r u hpost H1 locs1 ls hj.1 hj.2 hS1 hl
theorem c_V (C : CxH X g cL A b nL own h nc ns sk) {y : MethodName} {bb : ByteArray} {mL n idx h2 q ci : Nat} {ret : Option FieldType} {T : u_T} {N : Nat} {fl : List (Option Nat)} {stk : List Value} (As : List Value) {Rest : Mem → Prop} (hy : MeV y bb mL ret n) (hlk : Cond.methodLink own idx y ∈ GW) (hct : CV X.2.1 g lay y bb mL ret h2 (.ref (ad g q) :: As) M Rest) (hh : h2 + 1 ≤ h) (hq : lay[q]? = some (4, ci, fl)) (hcl : vwCl[ci]? = some (y.cls, T, N)) (hstk : stk = As.reverse ++ .ref (ad g q) :: st) (hn : As.length = n) (hw : (st.map fun v => v.category).sum ≤ 8) (hd : decode b pc = .ok (.invokevirtual idx, 3)) (hr : kc ≤ nc ∧ ks ≤ ns) (K : ∀ (M1 : Mem), Rest M1 → AtN X (g.1, g.2.1) (pre ++ wl g lay M1 ++ suf) A nL kc ks Z (pc + 3) lv st) : AtN X (g.1, g.2.1) (pre ++ wl g lay M ++ suf) A nL kc ks Z pc lv stk := by
  subst hstk
  intro H locs ls hP hD hS hl
  have C' := toCx C hD
  have hPw : wP g lay M H := subP hP
  have hFc := cx_frees (M := M) C' hS
  refine va_callv (va_runV (As := As) (rest := st) (cx_fix C') (hct H.size) ⟨cx_callB C' hy.1 hlk hh, C'.2.2.2.2.1 _ hy.2.1, C'.2.2.2.2.1 _ hy.2.2⟩ ⟨pcW_blind, va_recv C'.2.2.2.2.2.1 hPw hcl (wl_get (g := g) (M := M) hq), cx_pre C' hPw⟩ rfl hn hl.size rfl (lv_room hw) hd ⟨Nat.le_trans hr.1 C.1.2.2.2.2.2.2.2.2.2.2.1, Nat.le_trans hr.2 C.1.2.2.2.2.2.2.2.2.2.2.2.1⟩) hS (fun q _ h => hFc q h) hFc (fun u t H1 locs1 ht hvm hpost hB hz1 hk1 hS1 => ?_)
  have hj := fj hP hD (fun q hq => C.1.2.2.2.2.2.2.2.1 q (Nat.le_trans hS.1 hq)) hk1 (w1 := wl g lay u) (by rw [← ht]; exact hB) (dSame (subD hD) wl_addr)
  exact K u hpost H1 locs1 ls hj.1 hj.2 hS1 hl
theorem c_SI (C : CxH X g cL A b nL own h nc ns sk) {y : MethodName} {bb : ByteArray} {mL n idx h2 q ci : Nat} {ret : Option FieldType} {T : u_T} {N : Nat} {fl : List (Option Nat)} {stk : List Value} (As : List Value) {Rest : Int32 → Mem → Prop} (hy : MeV y bb mL ret n) (hlk : Cond.methodLink own idx y ∈ GW) (hct : SI X.2.1 g lay sk y bb mL ret h2 (.ref (ad g q) :: As) M Rest) (hh : h2 + 1 ≤ h) (hq : lay[q]? = some (4, ci, fl)) (hcl : vwCl[ci]? = some (y.cls, T, N)) (hstk : stk = As.reverse ++ .ref (ad g q) :: st) (hn : As.length = n) (hw : (st.map fun v => v.category).sum ≤ 8) (hd : decode b pc = .ok (.invokevirtual idx, 3)) (hr : kc ≤ nc ∧ ks ≤ ns) (K : ∀ (r : Int32) (M1 : Mem), Rest r M1 → AtN X (g.1, g.2.1) (pre ++ wl g lay M1 ++ suf) A nL kc ks Z (pc + 3) lv (.int r :: st)) : AtN X (g.1, g.2.1) (pre ++ wl g lay M ++ suf) A nL kc ks Z pc lv stk := by
  subst hstk
  intro H locs ls hP hD hS hl
  have C' := toCxX C hD
  have hPw : wP g lay M H := subP hP
  have hFc := cx_frees (M := M) C'.1 hS
  refine va_calli (va_runV (As := As) (rest := st) (cx_fix C'.1) (hct H.size) ⟨cx_callB C'.1 hy.1 hlk hh, C'.1.2.2.2.2.1 _ hy.2.1, C'.1.2.2.2.2.1 _ hy.2.2⟩ ⟨pcX_blind, va_recv C'.1.2.2.2.2.2.1 hPw hcl (wl_get (g := g) (M := M) hq), cxx_pre C' hPw hS⟩ rfl hn hl.size rfl (lv_room hw) hd ⟨Nat.le_trans hr.1 C.1.2.2.2.2.2.2.2.2.2.2.1, Nat.le_trans hr.2 C.1.2.2.2.2.2.2.2.2.2.2.2.1⟩) hS (fun q _ h => hFc q h) hFc (fun r u t H1 locs1 ht hvm hpost hB hz1 hk1 hS1 => ?_)
  have hj := fj hP hD (fun q hq => C.1.2.2.2.2.2.2.2.1 q (Nat.le_trans hS.1 hq)) hk1 (w1 := wl g lay u) (by rw [← ht]; exact hB) (dSame (subD hD) wl_addr)
  exact K r u hpost H1 locs1 ls hj.1 hj.2 hS1 hl
/-- where a throw comes to -/
def ThN (X : FX) (g : GT) (lay : List CD) (pre suf : va_W) (A : Nat → Prop) (nL kc ks : Nat) (Z : State → Prop) (pc : Nat) (lv : List (Nat × Value)) (st : List Value) (ex : String → Mem → Prop) : Prop :=
  ∀ (E : String) (M1 : Mem), ex E M1 → ∀ (H : Heap) (locs : List Loc) (ls : Array Slot) (q9 : Addr) (ce : Cell), va_P (g.1, g.2.1) vwCl (pre ++ wl g lay M1 ++ suf) H → va_D A (pre ++ wl g lay M1 ++ suf) → va_S A (xs X).heap H locs → lvk ls nL lv → H[q9]? = some ce → ce.vm = .none → (xs X).vm.findClass E = some ce.cls →
    vx_W X.1 X.2.1 X.2.2.1 X.2.2.2.1 (xs X) X.2.2.2.2.2.1 X.2.2.2.2.2.2.1 X.2.2.2.2.2.2.2.1 X.2.2.2.2.2.2.2.2.1 X.2.2.2.2.2.2.2.2.2 H locs kc ks Z (xF X pc ls st) q9
theorem h_callI (C : CxH X g cL A b nL own h nc ns sk) {y : MethodName} {bb : ByteArray} {mL n idx h2 n2 q ci : Nat} {ret : Option FieldType} {T : u_T} {N : Nat} {fl : List (Option Nat)} {stk : List Value} (As : List Value) {Rest : Int32 → Mem → Prop} {ex : String → Mem → Prop} (hy : MeV y bb mL ret n) (hlk : Cond.methodLink own idx y ∈ GW) (hct : XI X.2.1 g lay sk y bb mL ret h2 n2 (.ref (ad g q) :: As) M Rest ex) (hh : h2 + 1 ≤ h) (hq : lay[q]? = some (4, ci, fl)) (hcl : vwCl[ci]? = some (y.cls, T, N)) (hstk : stk = As.reverse ++ .ref (ad g q) :: st) (hn : As.length = n) (hw : (st.map fun v => v.category).sum ≤ 8) (hd : decode b pc = .ok (.invokevirtual idx, 3)) (hk : kc + n2 ≤ nc ∧ ks + 6 * n2 ≤ ns)
    (hT : ThN X g lay pre suf A nL (kc + n2) (ks + 6 * n2) Z pc lv st ex) (K : ∀ (r : Int32) (M1 : Mem), Rest r M1 → AtN X (g.1, g.2.1) (pre ++ wl g lay M1 ++ suf) A nL (kc + n2) (ks + 6 * n2) Z (pc + 3) lv (.int r :: st)) : AtN X (g.1, g.2.1) (pre ++ wl g lay M ++ suf) A nL kc ks Z pc lv stk := by
  subst hstk
  intro H locs ls hP hD hS hl
  have C' := toCxX C hD
  have hPw : wP g lay M H := subP hP
  have hFc := cx_frees (M := M) C'.1 hS
  have hj : ∀ (u : Mem) (H1 : Heap), (∀ q : Nat, q < H.size → ¬ va_A (wl g lay M) H.size q → H1[q]? = H[q]?) → wP g lay u H1 → _ := fun u H1 hk1 hB => fj hP hD (fun q hq => C.1.2.2.2.2.2.2.2.1 q (Nat.le_trans hS.1 hq)) hk1 (w1 := wl g lay u) hB (dSame (subD hD) wl_addr)
  exact vx_calli (vx_runV (As := As) (rest := st) (cx_fix C'.1) (hct H.size) ⟨cxx_callB C' hy.1 hlk hh, C'.1.2.2.2.2.1 _ hy.2.1, C'.1.2.2.2.2.1 _ hy.2.2⟩ ⟨pcX_blind, va_recv C'.1.2.2.2.2.2.1 hPw hcl (wl_get (g := g) (M := M) hq), cxx_pre C' hPw hS⟩ rfl hn hl.size rfl (lv_room hw) hd ⟨Nat.le_trans hk.1 C.1.2.2.2.2.2.2.2.2.2.2.1, Nat.le_trans hk.2 C.1.2.2.2.2.2.2.2.2.2.2.2.1⟩) hS (fun q _ h => hFc q h) hFc (fun q _ h => hFc q h) (fun E ce q9 u t H1 locs1 ht hvm _ hB hz1 hk1 hS1 hq hv hc => hT E u hB.1 H1 locs1 ls q9 ce (hj u H1 hk1 (by rw [← ht]; exact hB.2)).1 (hj u H1 hk1 (by rw [← ht]; exact hB.2)).2 hS1 hl hq hv hc) (fun r u t H1 locs1 ht hvm hpost hB hz1 hk1 hS1 => K r u hpost H1 locs1 ls (hj u H1 hk1 (by rw [← ht]; exact hB)).1 (hj u H1 hk1 (by rw [← ht]; exact hB)).2 hS1 hl)
theorem h_callV (C : CxH X g cL A b nL own h nc ns sk) {y : MethodName} {bb : ByteArray} {mL n idx h2 n2 q ci : Nat} {ret : Option FieldType} {T : u_T} {N : Nat} {fl : List (Option Nat)} {stk : List Value} (As : List Value) {Rest : Mem → Prop} {ex : String → Mem → Prop} (hy : MeV y bb mL ret n) (hlk : Cond.methodLink own idx y ∈ GW) (hct : XV X.2.1 g lay sk y bb mL ret h2 n2 (.ref (ad g q) :: As) M Rest ex) (hh : h2 + 1 ≤ h) (hq : lay[q]? = some (4, ci, fl)) (hcl : vwCl[ci]? = some (y.cls, T, N)) (hstk : stk = As.reverse ++ .ref (ad g q) :: st) (hn : As.length = n) (hw : (st.map fun v => v.category).sum ≤ 8) (hd : decode b pc = .ok (.invokevirtual idx, 3)) (hk : kc + n2 ≤ nc ∧ ks + 6 * n2 ≤ ns)
    (hT : ThN X g lay pre suf A nL (kc + n2) (ks + 6 * n2) Z pc lv st ex) (K : ∀ (M1 : Mem), Rest M1 → AtN X (g.1, g.2.1) (pre ++ wl g lay M1 ++ suf) A nL (kc + n2) (ks + 6 * n2) Z (pc + 3) lv st) : AtN X (g.1, g.2.1) (pre ++ wl g lay M ++ suf) A nL kc ks Z pc lv stk := by
  subst hstk
  intro H locs ls hP hD hS hl
  have C' := toCxX C hD
  have hPw : wP g lay M H := subP hP
  have hFc := cx_frees (M := M) C'.1 hS
  have hj : ∀ (u : Mem) (H1 : Heap), (∀ q : Nat, q < H.size → ¬ va_A (wl g lay M) H.size q → H1[q]? = H[q]?) → wP g lay u H1 → _ := fun u H1 hk1 hB => fj hP hD (fun q hq => C.1.2.2.2.2.2.2.2.1 q (Nat.le_trans hS.1 hq)) hk1 (w1 := wl g lay u) hB (dSame (subD hD) wl_addr)
  exact vx_callv (vx_runV (As := As) (rest := st) (cx_fix C'.1) (hct H.size) ⟨cxx_callB C' hy.1 hlk hh, C'.1.2.2.2.2.1 _ hy.2.1, C'.1.2.2.2.2.1 _ hy.2.2⟩ ⟨pcX_blind, va_recv C'.1.2.2.2.2.2.1 hPw hcl (wl_get (g := g) (M := M) hq), cxx_pre C' hPw hS⟩ rfl hn hl.size rfl (lv_room hw) hd ⟨Nat.le_trans hk.1 C.1.2.2.2.2.2.2.2.2.2.2.1, Nat.le_trans hk.2 C.1.2.2.2.2.2.2.2.2.2.2.2.1⟩) hS (fun q _ h => hFc q h) hFc (fun q _ h => hFc q h) (fun E ce q9 u t H1 locs1 ht hvm _ hB hz1 hk1 hS1 hq hv hc => hT E u hB.1 H1 locs1 ls q9 ce (hj u H1 hk1 (by rw [← ht]; exact hB.2)).1 (hj u H1 hk1 (by rw [← ht]; exact hB.2)).2 hS1 hl hq hv hc) (fun u t H1 locs1 ht hvm hpost hB hz1 hk1 hS1 => K u hpost H1 locs1 ls (hj u H1 hk1 (by rw [← ht]; exact hB)).1 (hj u H1 hk1 (by rw [← ht]; exact hB)).2 hS1 hl)
/-- a long put into the law's row of one -/
theorem h_last (C : CxH X g cL A b nL own h nc ns sk) {ao : Nat} {f : Nat → Int64} {x : Int64} (hd : decode b pc = .ok (.lastore, 1)) (K : AtN X (g.1, g.2.1) (ws ++ [(ao, ouE cL (vp_updL f 0 x))]) A nL kc ks Z (pc + 1) lv st) : AtN X (g.1, g.2.1) (ws ++ [(ao, ouE cL f)]) A nL kc ks Z pc lv (.long x :: .int 0 :: .ref ao :: st) := by
  intro H locs ls hP hD hS hl
  refine va_last C.1.1 C.1.2.1 C.1.2.2.2.2.2.1 hP hD hS ws.length 4 (cA := cL) (n := 1) (f := f) (by rw [List.getElem?_append_right (Nat.le_refl _), Nat.sub_self]; rfl) rfl (vin_nI (n := 0) (by omega) (by omega)) hd (fun H1 locs1 hP1 hD1 hS1 => ?_)
  have e : (ws ++ [(ao, ouE cL f)]).set ws.length (ao, .inl (cL, 1, .inr (.inl (vp_updL f 0 x)))) = ws ++ [(ao, ouE cL (vp_updL f 0 x))] := by
    rw [List.set_append_right _ _ (Nat.le_refl _), Nat.sub_self]; rfl
  have hP2 : va_P (g.1, g.2.1) vwCl ((ws ++ [(ao, ouE cL f)]).set ws.length (ao, .inl (cL, 1, .inr (.inl (vp_updL f 0 x))))) H1 := hP1
  have hD2 : va_D A ((ws ++ [(ao, ouE cL f)]).set ws.length (ao, .inl (cL, 1, .inr (.inl (vp_updL f 0 x))))) := hD1
  rw [e] at hP2 hD2
  exact K H1 locs1 ls hP2 hD2 hS1 hl
theorem h_lald (C : CxH X g cL A b nL own h nc ns sk) {ao : Nat} {f : Nat → Int64} (hd : decode b pc = .ok (.laload, 1)) (K : AtN X (g.1, g.2.1) (ws ++ [(ao, ouE cL f)]) A nL kc ks Z (pc + 1) lv (.long (f 0) :: st)) : AtN X (g.1, g.2.1) (ws ++ [(ao, ouE cL f)]) A nL kc ks Z pc lv (.int 0 :: .ref ao :: st) := fun H locs ls hP hD hS hl =>
  va_lald C.1.1 C.1.2.1 C.1.2.2.2.2.2.1 hP ws.length 4 (cA := cL) (n := 1) (f := f) (by rw [List.getElem?_append_right (Nat.le_refl _), Nat.sub_self]; rfl) rfl (vin_nI (n := 0) (by omega) (by omega)) hd (K H locs ls hP hD hS hl)
/-- a throw that is caught: past the rows before, into the handler -/
theorem h_catch (C : CxH X g cL A b nL own h nc ns sk) {hh : List (Nat × Nat × Nat × Nat)} (hte : X.2.2.2.2.2.2.2.2.2.exceptionTable.toList = tableOf hh) {E : String} {l1 l2 : List (Nat × Nat × Nat × Nat)} {x : Nat × Nat × Nat × Nat} (hsp : hh = l1 ++ x :: l2)
    (hps : ∀ z ∈ l1, z.2.2.2 ≠ 0 ∧ ∃ nm : String, Cond.classLink own z.2.2.2 nm ∈ GW ∧ va_Nc E nm (xs X)) (hcv : covers ⟨x.1, x.2.1, x.2.2.1, x.2.2.2⟩ pc = true) (h0 : x.2.2.2 ≠ 0) (hlk : Cond.classLink own x.2.2.2 E ∈ GW) (hca : Cond.castable E E ∈ NWs)
    {H : Heap} {locs : List Loc} {ls : Array Slot} {q9 : Addr} {ce : Cell} (hP : va_P (g.1, g.2.1) vwCl ws H) (hD : va_D A ws) (hS : va_S A (xs X).heap H locs) (hl : lvk ls nL lv) (hq : H[q9]? = some ce) (hv : ce.vm = .none) (hc : (xs X).vm.findClass E = some ce.cls) (K : AtN X (g.1, g.2.1) ws A nL kc ks Z x.2.2.1 lv [.ref q9]) :
    vx_W X.1 X.2.1 X.2.2.1 X.2.2.2.1 (xs X) X.2.2.2.2.2.1 X.2.2.2.2.2.2.1 X.2.2.2.2.2.2.2.1 X.2.2.2.2.2.2.2.2.1 X.2.2.2.2.2.2.2.2.2 H locs kc ks Z (xF X pc ls st) q9 := by
  refine vx_catch (name := E) C.1.2.2.2.1 (tableOf l1) ⟨x.1, x.2.1, x.2.2.1, x.2.2.2⟩ (tableOf l2) (by rw [hte, hsp]; unfold tableOf; rw [List.map_append]; rfl) (fun z hz => ?_) hcv h0 (C.1.2.2.2.2.1 _ hlk) (va_Nw.use rfl (C.1.2.2.2.2.2.2.1 _ hca)) hq hv hc (K H locs ls hP hD hS hl)
  obtain ⟨y, hy, e⟩ := List.mem_map.mp hz
  obtain ⟨h1, nm, h2, h3⟩ := hps y hy
  subst e
  exact Or.inr ⟨h1, nm, C.1.2.2.2.2.1 _ h2, h3⟩
end CALLN
/-- a helper's contract -/
abbrev pcH (l : Launch) (g : GT) (lay : List CD) (sk : Nat → Nat) (M : Mem) (ao : Nat) (cL : ClassId) (f : Nat → Int64) (vs : List Value) (sz : Nat) : Array Value → State → Prop :=
  va_Pc vs (fun U => U.heap.size = sz ∧ va_P (g.1, g.2.1) vwCl (wl g lay M ++ [(ao, ouE cL f)]) U.heap ∧ va_D (fun _ => True) (wl g lay M ++ [(ao, ouE cL f)]) ∧ va_K (g.1, g.2.1) vwCl (tys g ++ [(cL, .long)]) U ∧ NW U ∧ va_AO RX1 U ∧ NC U ∧ TX l sk (va_A (wl g lay M ++ [(ao, ouE cL f)]) sz) U U.heap)
def HI (l : Launch) (g : GT) (lay : List CD) (sk : Nat → Nat) (ao : Nat) (cL : ClassId) (y : MethodName) (bb : ByteArray) (mL h n : Nat) (hh : List (Nat × Nat × Nat × Nat)) (vs : List Value) (M : Mem) (f : Nat → Int64) (post : Int32 → Mem → (Nat → Int64) → Prop) : Prop :=
  ∀ sz, Met l y (.codeWith y bb mL (some .int) hh :: GW) (rmX h n) (pcH l g lay sk M ao cL f vs sz)
    (va_Qi (fun r (u : Mem × (Nat → Int64)) => post r u.1 u.2) (fun u t => va_P (g.1, g.2.1) vwCl (wl g lay u.1 ++ [(ao, ouE cL u.2)]) t.heap) (va_A (wl g lay M ++ [(ao, ouE cL f)]) sz)) n (6 * n) (va_A (wl g lay M ++ [(ao, ouE cL f)]) sz)
theorem pcH_blind {l : Launch} {g : GT} {lay : List CD} {sk : Nat → Nat} {M : Mem} {ao : Nat} {cL : ClassId} {f : Nat → Int64} {vs : List Value} {sz : Nat} : FrameBlind (pcH l g lay sk M ao cL f vs sz) := fun a U f mk q => by
  obtain ⟨h0, h1, h2, h3, h4, h5, h6, h7, h8⟩ := q
  exact ⟨h0, h1, h2, h3, va_K.moved (u := U) (U := U.calling f mk a) (Vm.Alike.refl U.vm) h4, NW.same (s := U) (U := U.calling f mk a) rfl h5, va_AO.moved (u := U) (U := U.calling f mk a) (Vm.Alike.refl U.vm) h6, NC.moved (u := U) (U := U.calling f mk a) (Vm.Alike.refl U.vm) h7, TX.same (s := U) (U := U.calling f mk a) rfl h8⟩
theorem met_ofWH {l : Launch} {y : MethodName} {ws ws' : List Cond} {rm : Room} {Pc : Array Value → State → Prop} {Qc : Array Value → State → Outcome → State → Prop} {mc ms : Nat} {free : Addr → Prop} {cc : ByteArray} {maxL : Nat} {ret : Option FieldType} {hh : List (Nat × Nat × Nat × Nat)}
    (hy : plainFor y = true) (hw : ws = Cond.codeWith y cc maxL ret hh :: ws')
    (body : ∀ p e s m args below meth c s₁, BodyLoose p l y (headSpec ws rm) cc maxL ret e s m args below meth c s₁ → c.maxLocals = maxL → Pc args s →
      W p l e (headSpec ws rm).room s m args below meth c s.heap [] 0 0 (MQ below Qc args s mc ms free) (entryFrame m args maxL)) : Met l y ws rm Pc Qc mc ms free := by
  refine MetFree.of_bodySF (code := cc) (maxLocals := maxL) (ret := ret) hy ?_ ?_
  · intro args s m h hn
    obtain ⟨m9, meth, c, hn9, h1, h2, h3, h4, -, h5, h6, -⟩ := Cond.codeWith_spec (atoms_spec (ws := ws) h _ (by rw [hw]; exact List.mem_cons_self))
    cases hn.symm.trans hn9
    exact ⟨meth, c, h1, h2, h3, h4, h5, h6⟩
  · intro p e s m args below meth c s₁ B hml hP _
    have hh0 : s₁.heap = s.heap := by rw [B.state]; rfl
    obtain ⟨t, a1, o, b1, b2, b3⟩ := body p e s m args below meth c s₁ B hml hP s₁ hh0 (Stand.of_body B)
    exact ⟨t, o, a1, b1, b2, ⟨b3.1, b3.2⟩⟩
def RetH (X : FX) (g : GT) (lay : List CD) (ao : Nat) (cL : ClassId) (A : Nat → Prop) (b : ByteArray) (nL n : Nat) (Z : State → Prop) (post : Int32 → Mem → (Nat → Int64) → Prop) : Prop :=
  ∀ (v : Int32) (M : Mem) (f : Nat → Int64) (pc : Nat) (lv : List (Nat × Value)), decode b pc = .ok (.ireturn, 1) → post v M f → AtN X (g.1, g.2.1) (wl g lay M ++ [(ao, ouE cL f)]) A nL n (6 * n) Z pc lv [.int v]
set_option maxHeartbeats 1000000 in
theorem hi_of {l : Launch} {g : GT} {lay : List CD} {sk : Nat → Nat} {ao : Nat} {cL : ClassId} {y : MethodName} {bb : ByteArray} {mL h n : Nat} {hh : List (Nat × Nat × Nat × Nat)} {vs : List Value} {M : Mem} {f : Nat → Int64} {post : Int32 → Mem → (Nat → Int64) → Prop} (hy : plainFor y = true) (hc : (lg_sl vs).length ≤ mL)
    (body : ∀ (X : FX) (A : Nat → Prop) (Z : State → Prop), X.2.1 = l → CxH X g cL A bb mL y.cls h n (6 * n) sk → X.2.2.2.2.2.2.2.2.2.exceptionTable.toList = tableOf hh → RetH X g lay ao cL A bb mL n Z post → AtN X (g.1, g.2.1) (wl g lay M ++ [(ao, ouE cL f)]) A mL 0 0 Z 0 (lv_args 0 vs) []) : HI l g lay sk ao cL y bb mL h n hh vs M f post := by
  intro sz
  refine met_ofWH (cc := bb) (maxL := mL) (ret := (some .int)) (hh := hh) hy rfl ?_
  intro p e s m args below meth c s₁ B hml hv
  obtain ⟨rfl, hsz, hP, hD, hK, hN, hO, hNC, hTX⟩ := hv
  subst hsz
  have hx := B.exec
  have hb := B.bytes
  have hr := B.returns
  have hts := atoms_spec (ws := .codeWith y bb mL (some .int) hh :: GW) B.pre
  have hown : s.vm.findClass y.cls = some m.cls := findClass_of_methodNamed B.named
  have htab := vx_table (x := y) B (hts _ List.mem_cons_self)
  have hD0 : va_D (va_A (wl g lay M ++ [(ao, ouE cL f)]) s.heap.size) (wl g lay M ++ [(ao, ouE cL f)]) := dSame hD rfl
  generalize hAe : va_A (wl g lay M ++ [(ao, ouE cL f)]) s.heap.size = A at hTX hD0 ⊢
  have hA : ∀ q : Nat, s.heap.size ≤ q → A q := fun q h => by rw [← hAe]; exact Or.inr h
  have hl := lv_entry vs (n := mL) hc
  rw [lg_entry_eq]
  generalize (lg_sl vs ++ List.replicate (mL - (lg_sl vs).length) Slot.unset).toArray = ls at hl ⊢
  refine body (p, l, e, _, s, m, _, below, meth, c) A _ rfl ⟨⟨hx, hb, hml, hown, fun w hw => hts w (List.mem_cons_of_mem _ hw), hK, hN, hA, Nat.le_refl _, Nat.le_refl _, Nat.le_refl _, Nat.le_refl _, hO⟩, hTX, hNC⟩ htab ?_ s.heap [] ls hP hD0 va_S.rf ⟨_, hl, fun i v hi => lookup_in _ hi⟩
  intro v M1 f1 pc lv hd hpost H locs ls2 hP1 hD1 hS1 hl1
  exact W.iret (v := v) hx hb hr (fun t ht hW => ⟨⟨v, (M1, f1), rfl, hpost, by show va_P (g.1, g.2.1) vwCl (wl g lay M1 ++ [(ao, ouE cL f1)]) t.heap; rw [ht]; exact hP1⟩, hS1.F ht⟩) hS1.2.2 hd
/-- a helper called: static, with a table -/
def MeH (y : MethodName) (bb : ByteArray) (mL : Nat) (hh : List (Nat × Nat × Nat × Nat)) (n : Nat) : Prop := Cond.initialized y.cls ∈ GW ∧ Cond.codeWith y bb mL (some .int) hh ∈ GW ∧ (y.cls ≠ "java/lang/invoke/MethodHandle" ∧ y.cls ≠ "java/lang/invoke/VarHandle" ∧ (parseMethodDescriptor y.desc).map (fun d => d.parameters.length) = some n) ∧ mL ≤ 45 ∧ Cond.static y ∈ GW
theorem gw_goods {L : List Cond} (h : ∀ w ∈ L, w ∈ GW) : GoodIn GW L := fun w hw => ⟨h w hw, good_of_word (List.mem_filter.mp (h w hw)).2⟩
theorem h_stat {X : FX} {g : GT} {cL : ClassId} {lay : List CD} {pre : va_W} {A : Nat → Prop} {b : ByteArray} {nL kc ks h nc ns : Nat} {own : String} {Z : State → Prop} {pc : Nat} {lv : List (Nat × Value)} {st : List Value} {M : Mem} {sk : Nat → Nat} (C : CxH X g cL A b nL own h nc ns sk) {y : MethodName} {bb : ByteArray} {mL n idx h2 n2 ao : Nat} {hh : List (Nat × Nat × Nat × Nat)} {f : Nat → Int64} {stk : List Value} (As : List Value) {Rest : Int32 → Mem → (Nat → Int64) → Prop} (hy : MeH y bb mL hh n) (hlk : Cond.methodLink own idx y ∈ GW) (hct : HI X.2.1 g lay sk ao cL y bb mL h2 n2 hh As M f Rest) (hhh : h2 + 1 ≤ h) (hstk : stk = As.reverse ++ st) (hn : As.length = n) (hw : (st.map fun v => v.category).sum ≤ 8) (hd : decode b pc = .ok (.invokestatic idx, 3)) (hk : kc + n2 ≤ nc ∧ ks + 6 * n2 ≤ ns)
    (K : ∀ (r : Int32) (M1 : Mem) (f1 : Nat → Int64), Rest r M1 f1 → AtN X (g.1, g.2.1) (pre ++ (wl g lay M1 ++ [(ao, ouE cL f1)])) A nL (kc + n2) (ks + 6 * n2) Z (pc + 3) lv (.int r :: st)) : AtN X (g.1, g.2.1) (pre ++ (wl g lay M ++ [(ao, ouE cL f)])) A nL kc ks Z pc lv stk := by
  subst hstk
  intro H locs ls hP hD hS hl
  obtain ⟨h3, h4, h5, h6, h7⟩ := hy
  have r1 := C.1.2.2.2.2.2.2.2.2.1
  have r2 := C.1.2.2.2.2.2.2.2.2.2.1
  have hP0 : va_P (g.1, g.2.1) vwCl (pre ++ (wl g lay M ++ [(ao, ouE cL f)]) ++ []) H := by rw [List.append_nil]; exact hP
  have hD0 : va_D A (pre ++ (wl g lay M ++ [(ao, ouE cL f)]) ++ []) := by rw [List.append_nil]; exact hD
  have hFc : ∀ q, va_A (wl g lay M ++ [(ao, ouE cL f)]) H.size q → A q := subA C.1.2.2.2.2.2.2.2.1 hD0 hS
  refine va_calli (vx_runSW (hh := hh) (As := As) (rest := st) ⟨C.1.1, C.1.2.1, C.1.2.2.1, C.1.2.2.2.1, C.1.2.2.2.2.1⟩ (hct H.size) (vx_cwSW n C.1.2.2.2.2.1 (gw_goods (fun w hw => ?_)) rfl rfl rfl h5 ⟨by show h2 + 1 ≤ _; omega, by show 8 + (mL + 11) + 64 * h2 ≤ _; omega⟩) ⟨pcH_blind, fun U hU hW => ⟨rfl, by rw [hU], by rw [hU]; exact subP hP0, (subD hD0).weaken (fun _ _ _ _ => trivial), va_K.moved hW.alike C.1.2.2.2.2.2.1, NW.warm hW C.1.2.2.2.2.2.2.1, va_AO.moved hW.alike C.1.2.2.2.2.2.2.2.2.2.2.2.2, NC.moved hW.alike C.2.2, by rw [hU]; exact ((C.2.1.kept hS.2.1).narrow hFc).warm hW⟩⟩ rfl hn hl.size rfl (lv_room hw) hd ⟨Nat.le_trans hk.1 C.1.2.2.2.2.2.2.2.2.2.2.1, Nat.le_trans hk.2 C.1.2.2.2.2.2.2.2.2.2.2.2.1⟩) hS (fun q _ h => hFc q h) hFc (fun r u t H1 locs1 ht hvm hpost hB hz1 hk1 hS1 => ?_)
  · unfold va_wsS at hw
    rcases List.mem_append.mp hw with hw | hw
    · simp only [List.mem_cons, List.not_mem_nil, or_false] at hw
      rcases hw with rfl | rfl | rfl
      · exact hlk
      · exact h7
      · exact h3
    · rcases List.mem_cons.mp hw with rfl | hw
      · exact h4
      · exact hw
  · have hj := fj hP0 hD0 (fun q hq => C.1.2.2.2.2.2.2.2.1 q (Nat.le_trans hS.1 hq)) hk1 (w1 := wl g lay u.1 ++ [(ao, ouE cL u.2)]) (by rw [← ht]; exact hB) (dSame (subD hD0) (by rw [List.map_append, List.map_append, wl_addr (M1 := M)]; rfl))
    rw [List.append_nil] at hj
    exact K r u.1 u.2 hpost H1 locs1 ls hj.1 hj.2 hS1 hl
