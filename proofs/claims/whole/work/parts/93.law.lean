/-! THE LAW'S FRAME -/
def segB (b : ByteArray) : Nat → List (Instr × Nat) → Bool
  | _, [] => true
  | pc, (i, n) :: r => decide (decode b pc = .ok (i, n)) && segB b (pc + n) r
theorem seg1 {b : ByteArray} {pc n : Nat} {i : Instr} {r : List (Instr × Nat)} (h : segB b pc ((i, n) :: r) = true) : decode b pc = .ok (i, n) ∧ segB b (pc + n) r = true := by
  unfold segB at h
  rw [Bool.and_eq_true, decide_eq_true_eq] at h
  exact h
def WS (g : GT) (aM aC : Nat → Nat) (ext : List CD) (Mc Mm : Mem) (ao : Nat) (cL : ClassId) (f : Nat → Int64) : va_W := wl (gA g aM) layM Mm ++ (wl (gA g aC) (layC ++ ext) Mc ++ [(ao, ouE cL f)])
def CxL (X : FX) (g : GT) (cL : ClassId) (A : Nat → Prop) (sk : Nat → Nat) (sb L : Nat) (sx : Nat → Int32) : Prop :=
  CxH X g cL A code 7 RL 1000 601024 7293034 sk ∧ va_X sb L sx (xs X) (xs X).heap ∧ sb < (xs X).heap.size ∧ ¬ A sb
abbrev lvB (n ao am ac sb : Nat) : List (Nat × Value) := [(4, .int (nI n)), (3, .ref ao), (2, .ref am), (1, .ref ac), (0, .ref sb)]
section LAWF
variable {X : FX} {g : GT} {cL : ClassId} {ws : va_W} {A : Nat → Prop} {sk : Nat → Nat} {sb L : Nat} {sx : Nat → Int32} {nL kc ks : Nat} {Z : State → Prop} {pc : Nat} {lv : List (Nat × Value)} {st : List Value} {aM aC : Nat → Nat} {ext : List CD} {Mc Mm : Mem} {ao : Nat} {f : Nat → Int64} {D : va_G}
theorem n_drop {x : Nat × Value} (h : lv.lookup x.1 = none) (K : AtN X D ws A nL kc ks Z pc lv st) : AtN X D ws A nL kc ks Z pc (x :: lv) st := by
  intro H locs ls hP hD hS hl
  obtain ⟨l, h1, h2⟩ := hl
  refine K H locs ls hP hD hS ⟨l, h1, fun i v hi => h2 i v ?_⟩
  have hne : i ≠ x.1 := fun e => by rw [e, h] at hi; cases hi
  obtain ⟨a, b⟩ := x
  rw [List.lookup_cons, beq_eq_false_iff_ne.mpr hne]
  exact hi
theorem l_sld (C : CxL X g cL A sk sb L sx) {n : Nat} (hn : n < L) (hL : L ≤ 3072) (hd : decode code pc = .ok (.iaload, 1)) (K : AtN X D ws A 7 kc ks Z (pc + 1) lv (.int (sx n) :: st)) : AtN X D ws A 7 kc ks Z pc lv (.int (nI n) :: .ref sb :: st) := by
  intro H locs ls hP hD hS hl
  refine va_sld C.1.1.1 C.1.1.2.1 C.2.1 C.2.2.1 C.2.2.2 hS (vin_nI hn (by omega)) hd ?_
  rw [nI_clamp (by omega)]
  exact K H locs ls hP hD hS hl
theorem l_arg (C : CxL X g cL A sk sb L sx) {n j : Nat} {jz : Int} {r : List (Instr × Nat)} (h : segB code pc ((.aload_n 0, 1) :: (.iload 4, 2) :: (.iconst jz, 1) :: (.iadd, 1) :: (.iaload, 1) :: r) = true) (h0 : lv.lookup 0 = some (.ref sb)) (h4 : lv.lookup 4 = some (.int (nI n))) (hj : Int32.ofInt jz = nI j) (hn : n + j < L) (hL : L ≤ 3072) (K : segB code (pc + 6) r = true → AtN X (g.1, g.2.1) ws A 7 kc ks Z (pc + 6) lv (.int (sx (n + j)) :: st)) : AtN X (g.1, g.2.1) ws A 7 kc ks Z pc lv st := by
  obtain ⟨d0, h⟩ := seg1 h
  obtain ⟨d1, h⟩ := seg1 h
  obtain ⟨d2, h⟩ := seg1 h
  obtain ⟨d3, h⟩ := seg1 h
  obtain ⟨d4, h⟩ := seg1 h
  refine n_aload_n C.1.1 d0 h0 (n_iload C.1.1 d1 h4 (n_iconst C.1.1 (nI j) d2 hj (n_iadd C.1.1 d3 ?_)))
  rw [nI_add]
  exact l_sld C hn hL d4 (K h)
theorem l_bool (C : CxL X g cL A sk sb L sx) {x : Int32} {r : List (Instr × Nat)} (h : segB code pc ((.ifCond .eq 7, 3) :: (.iconst 1, 1) :: (.goto 4, 3) :: (.iconst 0, 1) :: r) = true) (K : segB code (pc + 8) r = true → AtN X (g.1, g.2.1) ws A 7 kc ks Z (pc + 8) lv (.int (bi (decide (¬ x = 0))) :: st)) : AtN X (g.1, g.2.1) ws A 7 kc ks Z pc lv (.int x :: st) := by
  obtain ⟨d0, h⟩ := seg1 h
  obtain ⟨d1, h⟩ := seg1 h
  obtain ⟨d2, h⟩ := seg1 h
  obtain ⟨d3, h⟩ := seg1 h
  have K := K h
  refine n_if_eq C.1.1 (pc + 3 + 1 + 3) d0 (by omega) (fun e => ?_) (fun e => ?_)
  · refine n_iconst C.1.1 0 d3 rfl ?_
    rw [show decide (¬ x = 0) = false by simp [e]] at K
    exact K
  · refine n_iconst C.1.1 1 d1 rfl (n_goto C.1.1 (pc + 8) d2 (by omega) ?_)
    rw [show decide (¬ x = 0) = true by simp [e]] at K
    exact K
theorem l_stat (C : CxL X g cL A sk sb L sx) {y : MethodName} {bb : ByteArray} {mL n idx h2 n2 : Nat} {hh : List (Nat × Nat × Nat × Nat)} {stk : List Value} (As : List Value) {Rest : Int32 → Mem → (Nat → Int64) → Prop} (hy : MeH y bb mL hh n) (hlk : Cond.methodLink RL idx y ∈ GW) (hct : HI X.2.1 (gA g aC) (layC ++ ext) sk ao cL y bb mL h2 n2 hh As Mc f Rest) (hhh : h2 + 1 ≤ 1000) (hstk : stk = As.reverse ++ st) (hn : As.length = n) (hw : (st.map fun v => v.category).sum ≤ 8) (hd : decode code pc = .ok (.invokestatic idx, 3)) (hk : kc + n2 ≤ 601024 ∧ ks + 6 * n2 ≤ 7293034)
    (K : ∀ (r : Int32) (M1 : Mem) (f1 : Nat → Int64), Rest r M1 f1 → AtN X (g.1, g.2.1) (WS g aM aC ext M1 Mm ao cL f1) A 7 (kc + n2) (ks + 6 * n2) Z (pc + 3) lv (.int r :: st)) : AtN X (g.1, g.2.1) (WS g aM aC ext Mc Mm ao cL f) A 7 kc ks Z pc lv stk :=
  h_stat (g := gA g aC) (pre := wl (gA g aM) layM Mm) C.1 As hy hlk hct hhh hstk hn hw hd hk K
theorem l_R (C : CxL X g cL A sk sb L sx) {y : MethodName} {bb : ByteArray} {mL n idx h2 : Nat} {ret : Option FieldType} {T : u_T} {N : Nat} {stk : List Value} (As : List Value) {Rest : Int32 → Mem → Prop} (hy : MeV y bb mL ret n) (hlk : Cond.methodLink RL idx y ∈ GW) (hct : CI X.2.1 (gA g aM) layM y bb mL ret h2 (.ref (aM 0) :: As) Mm Rest) (hh : h2 + 1 ≤ 1000) (hcl : vwCl[12]? = some (y.cls, T, N)) (hstk : stk = As.reverse ++ .ref (aM 0) :: st) (hn : As.length = n) (hw : (st.map fun v => v.category).sum ≤ 8) (hd : decode code pc = .ok (.invokevirtual idx, 3)) (hr : kc ≤ 601024 ∧ ks ≤ 7293034)
    (K : ∀ (r : Int32) (M1 : Mem), Rest r M1 → AtN X (g.1, g.2.1) (WS g aM aC ext Mc M1 ao cL f) A 7 kc ks Z (pc + 3) lv (.int r :: st)) : AtN X (g.1, g.2.1) (WS g aM aC ext Mc Mm ao cL f) A 7 kc ks Z pc lv stk :=
  n_ws (by unfold WS; rw [List.nil_append]) (c_I (g := gA g aM) (pre := []) (suf := wl (gA g aC) (layC ++ ext) Mc ++ [(ao, ouE cL f)]) C.1 As hy hlk hct hh lm0 hcl hstk hn hw hd hr (fun r M1 h => n_ws (by unfold WS; rw [List.nil_append]) (K r M1 h)))
theorem l_RV (C : CxL X g cL A sk sb L sx) {y : MethodName} {bb : ByteArray} {mL n idx h2 : Nat} {ret : Option FieldType} {T : u_T} {N : Nat} {stk : List Value} (As : List Value) {Rest : Mem → Prop} (hy : MeV y bb mL ret n) (hlk : Cond.methodLink RL idx y ∈ GW) (hct : CV X.2.1 (gA g aM) layM y bb mL ret h2 (.ref (aM 0) :: As) Mm Rest) (hh : h2 + 1 ≤ 1000) (hcl : vwCl[12]? = some (y.cls, T, N)) (hstk : stk = As.reverse ++ .ref (aM 0) :: st) (hn : As.length = n) (hw : (st.map fun v => v.category).sum ≤ 8) (hd : decode code pc = .ok (.invokevirtual idx, 3)) (hr : kc ≤ 601024 ∧ ks ≤ 7293034)
    (K : ∀ (M1 : Mem), Rest M1 → AtN X (g.1, g.2.1) (WS g aM aC ext Mc M1 ao cL f) A 7 kc ks Z (pc + 3) lv st) : AtN X (g.1, g.2.1) (WS g aM aC ext Mc Mm ao cL f) A 7 kc ks Z pc lv stk :=
  n_ws (by unfold WS; rw [List.nil_append]) (c_V (g := gA g aM) (pre := []) (suf := wl (gA g aC) (layC ++ ext) Mc ++ [(ao, ouE cL f)]) C.1 As hy hlk hct hh lm0 hcl hstk hn hw hd hr (fun M1 h => n_ws (by unfold WS; rw [List.nil_append]) (K M1 h)))
theorem l_RS (C : CxL X g cL A sk sb L sx) {y : MethodName} {bb : ByteArray} {mL n idx h2 : Nat} {ret : Option FieldType} {T : u_T} {N : Nat} {stk : List Value} (As : List Value) {Rest : Int32 → Mem → Prop} (hy : MeV y bb mL ret n) (hlk : Cond.methodLink RL idx y ∈ GW) (hct : SI X.2.1 (gA g aM) layM sk y bb mL ret h2 (.ref (aM 0) :: As) Mm Rest) (hh : h2 + 1 ≤ 1000) (hcl : vwCl[12]? = some (y.cls, T, N)) (hstk : stk = As.reverse ++ .ref (aM 0) :: st) (hn : As.length = n) (hw : (st.map fun v => v.category).sum ≤ 8) (hd : decode code pc = .ok (.invokevirtual idx, 3)) (hr : kc ≤ 601024 ∧ ks ≤ 7293034)
    (K : ∀ (r : Int32) (M1 : Mem), Rest r M1 → AtN X (g.1, g.2.1) (WS g aM aC ext Mc M1 ao cL f) A 7 kc ks Z (pc + 3) lv (.int r :: st)) : AtN X (g.1, g.2.1) (WS g aM aC ext Mc Mm ao cL f) A 7 kc ks Z pc lv stk :=
  n_ws (by unfold WS; rw [List.nil_append]) (c_SI (g := gA g aM) (pre := []) (suf := wl (gA g aC) (layC ++ ext) Mc ++ [(ao, ouE cL f)]) C.1 As hy hlk hct hh lm0 hcl hstk hn hw hd hr (fun r M1 h => n_ws (by unfold WS; rw [List.nil_append]) (K r M1 h)))
theorem l_C (C : CxL X g cL A sk sb L sx) {y : MethodName} {bb : ByteArray} {mL n idx h2 : Nat} {ret : Option FieldType} {T : u_T} {N : Nat} {stk : List Value} (As : List Value) {Rest : Int32 → Mem → Prop} (hy : MeV y bb mL ret n) (hlk : Cond.methodLink RL idx y ∈ GW) (hct : CI X.2.1 (gA g aC) (layC ++ ext) y bb mL ret h2 (.ref (aC 0) :: As) Mc Rest) (hh : h2 + 1 ≤ 1000) (hcl : vwCl[11]? = some (y.cls, T, N)) (hstk : stk = As.reverse ++ .ref (aC 0) :: st) (hn : As.length = n) (hw : (st.map fun v => v.category).sum ≤ 8) (hd : decode code pc = .ok (.invokevirtual idx, 3)) (hr : kc ≤ 601024 ∧ ks ≤ 7293034)
    (K : ∀ (r : Int32) (M1 : Mem), Rest r M1 → AtN X (g.1, g.2.1) (WS g aM aC ext M1 Mm ao cL f) A 7 kc ks Z (pc + 3) lv (.int r :: st)) : AtN X (g.1, g.2.1) (WS g aM aC ext Mc Mm ao cL f) A 7 kc ks Z pc lv stk :=
  n_ws (by unfold WS; rw [List.append_assoc]) (c_I (g := gA g aC) (pre := wl (gA g aM) layM Mm) (suf := [(ao, ouE cL f)]) C.1 As hy hlk hct hh lc0 hcl hstk hn hw hd hr (fun r M1 h => n_ws (by unfold WS; rw [List.append_assoc]) (K r M1 h)))
theorem l_CV (C : CxL X g cL A sk sb L sx) {y : MethodName} {bb : ByteArray} {mL n idx h2 : Nat} {ret : Option FieldType} {T : u_T} {N : Nat} {stk : List Value} (As : List Value) {Rest : Mem → Prop} (hy : MeV y bb mL ret n) (hlk : Cond.methodLink RL idx y ∈ GW) (hct : CV X.2.1 (gA g aC) (layC ++ ext) y bb mL ret h2 (.ref (aC 0) :: As) Mc Rest) (hh : h2 + 1 ≤ 1000) (hcl : vwCl[11]? = some (y.cls, T, N)) (hstk : stk = As.reverse ++ .ref (aC 0) :: st) (hn : As.length = n) (hw : (st.map fun v => v.category).sum ≤ 8) (hd : decode code pc = .ok (.invokevirtual idx, 3)) (hr : kc ≤ 601024 ∧ ks ≤ 7293034)
    (K : ∀ (M1 : Mem), Rest M1 → AtN X (g.1, g.2.1) (WS g aM aC ext M1 Mm ao cL f) A 7 kc ks Z (pc + 3) lv st) : AtN X (g.1, g.2.1) (WS g aM aC ext Mc Mm ao cL f) A 7 kc ks Z pc lv stk :=
  n_ws (by unfold WS; rw [List.append_assoc]) (c_V (g := gA g aC) (pre := wl (gA g aM) layM Mm) (suf := [(ao, ouE cL f)]) C.1 As hy hlk hct hh lc0 hcl hstk hn hw hd hr (fun M1 h => n_ws (by unfold WS; rw [List.append_assoc]) (K M1 h)))
theorem lgcmp0 (x : Int64) : lg_cmp x x = 0 := by
  unfold lg_cmp
  simp
/-- the plain compare at a case's end -/
theorem l_cmp (C : CxL X g cL A sk sb L sx) {x : Int32} {off : Int} (hd : decode code pc = .ok (.if_icmp .eq off, 3)) (ho : (pc : Int) + off = 3565) (K : AtN X (g.1, g.2.1) ws A 7 kc ks Z 3565 lv st) : AtN X (g.1, g.2.1) ws A 7 kc ks Z pc lv (.int x :: .int x :: st) :=
  n_icmp_eq C.1.1 3565 hd ho (fun _ => K) (fun e => absurd rfl e)
theorem l_lald (C : CxL X g cL A sk sb L sx) (hd : decode code pc = .ok (.laload, 1)) (K : AtN X (g.1, g.2.1) (WS g aM aC ext Mc Mm ao cL f) A 7 kc ks Z (pc + 1) lv (.long (f 0) :: st)) : AtN X (g.1, g.2.1) (WS g aM aC ext Mc Mm ao cL f) A 7 kc ks Z pc lv (.int 0 :: .ref ao :: st) :=
  n_ws (ws2 := (wl (gA g aM) layM Mm ++ wl (gA g aC) (layC ++ ext) Mc) ++ [(ao, ouE cL f)]) (by unfold WS; rw [List.append_assoc]) (h_lald C.1 hd (n_ws (by unfold WS; rw [List.append_assoc]) K))
end LAWF
