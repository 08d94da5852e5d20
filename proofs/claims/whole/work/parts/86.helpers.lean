/-! THE LAW'S HELPERS (printed by help.py) -/
theorem cl_IAE : Cond.classLink RL 13 IAE ∈ GW := gw 824 (by decide +kernel) (by decide +kernel)
theorem ca_IAE : Cond.castable IAE IAE ∈ NWs := List.mem_filter.mpr ⟨List.mem_of_getElem? (i := 835) (by decide +kernel), rfl⟩
theorem in_IAE : IAE ∈ EX4 := by decide
theorem cl_UOE : Cond.classLink RL 23 UOE ∈ GW := gw 912 (by decide +kernel) (by decide +kernel)
theorem ca_UOE : Cond.castable UOE UOE ∈ NWs := List.mem_filter.mpr ⟨List.mem_of_getElem? (i := 922) (by decide +kernel), rfl⟩
theorem in_UOE : UOE ∈ EX4 := by decide
theorem cl_NSE : Cond.classLink RL 37 NSE ∈ GW := gw 956 (by decide +kernel) (by decide +kernel)
theorem ca_NSE : Cond.castable NSE NSE ∈ NWs := List.mem_filter.mpr ⟨List.mem_of_getElem? (i := 966) (by decide +kernel), rfl⟩
theorem in_NSE : NSE ∈ EX4 := by decide
theorem cl_IOB : Cond.classLink RL 51 IOB ∈ GW := gw 1019 (by decide +kernel) (by decide +kernel)
theorem ca_IOB : Cond.castable IOB IOB ∈ NWs := List.mem_filter.mpr ⟨List.mem_of_getElem? (i := 1029) (by decide +kernel), rfl⟩
theorem in_IOB : IOB ∈ EX4 := by decide
theorem h_callI0 {X : FX} {g : GT} {cL : ClassId} {lay : List CD} {suf : va_W} {A : Nat → Prop} {b : ByteArray} {nL kc ks h nc ns : Nat} {own : String} {Z : State → Prop} {pc : Nat} {lv : List (Nat × Value)} {st : List Value} {M : Mem} {sk : Nat → Nat} (C : CxH X g cL A b nL own h nc ns sk) {y : MethodName} {bb : ByteArray} {mL n idx h2 n2 q ci : Nat} {ret : Option FieldType} {T : u_T} {N : Nat} {fl : List (Option Nat)} {stk : List Value} (As : List Value) {Rest : Int32 → Mem → Prop} {ex : String → Mem → Prop} (hy : MeV y bb mL ret n) (hlk : Cond.methodLink own idx y ∈ GW) (hct : XI X.2.1 g lay sk y bb mL ret h2 n2 (.ref (ad g q) :: As) M Rest ex) (hh : h2 + 1 ≤ h) (hq : lay[q]? = some (4, ci, fl)) (hcl : vwCl[ci]? = some (y.cls, T, N)) (hstk : stk = As.reverse ++ .ref (ad g q) :: st) (hn : As.length = n) (hw : (st.map fun v => v.category).sum ≤ 8) (hd : decode b pc = .ok (.invokevirtual idx, 3)) (hk : kc + n2 ≤ nc ∧ ks + 6 * n2 ≤ ns)
    (hT : ThN X g lay [] suf A nL (kc + n2) (ks + 6 * n2) Z pc lv st ex) (K : ∀ (r : Int32) (M1 : Mem), Rest r M1 → AtN X (g.1, g.2.1) (wl g lay M1 ++ suf) A nL (kc + n2) (ks + 6 * n2) Z (pc + 3) lv (.int r :: st)) : AtN X (g.1, g.2.1) (wl g lay M ++ suf) A nL kc ks Z pc lv stk :=
  n_ws (by rw [List.nil_append]) (h_callI (pre := []) C As hy hlk hct hh hq hcl hstk hn hw hd hk hT (fun r M1 hp => n_ws (by rw [List.nil_append]) (K r M1 hp)))
theorem h_callV0 {X : FX} {g : GT} {cL : ClassId} {lay : List CD} {suf : va_W} {A : Nat → Prop} {b : ByteArray} {nL kc ks h nc ns : Nat} {own : String} {Z : State → Prop} {pc : Nat} {lv : List (Nat × Value)} {st : List Value} {M : Mem} {sk : Nat → Nat} (C : CxH X g cL A b nL own h nc ns sk) {y : MethodName} {bb : ByteArray} {mL n idx h2 n2 q ci : Nat} {ret : Option FieldType} {T : u_T} {N : Nat} {fl : List (Option Nat)} {stk : List Value} (As : List Value) {Rest : Mem → Prop} {ex : String → Mem → Prop} (hy : MeV y bb mL ret n) (hlk : Cond.methodLink own idx y ∈ GW) (hct : XV X.2.1 g lay sk y bb mL ret h2 n2 (.ref (ad g q) :: As) M Rest ex) (hh : h2 + 1 ≤ h) (hq : lay[q]? = some (4, ci, fl)) (hcl : vwCl[ci]? = some (y.cls, T, N)) (hstk : stk = As.reverse ++ .ref (ad g q) :: st) (hn : As.length = n) (hw : (st.map fun v => v.category).sum ≤ 8) (hd : decode b pc = .ok (.invokevirtual idx, 3)) (hk : kc + n2 ≤ nc ∧ ks + 6 * n2 ≤ ns)
    (hT : ThN X g lay [] suf A nL (kc + n2) (ks + 6 * n2) Z pc lv st ex) (K : ∀ (M1 : Mem), Rest M1 → AtN X (g.1, g.2.1) (wl g lay M1 ++ suf) A nL (kc + n2) (ks + 6 * n2) Z (pc + 3) lv st) : AtN X (g.1, g.2.1) (wl g lay M ++ suf) A nL kc ks Z pc lv stk :=
  n_ws (by rw [List.nil_append]) (h_callV (pre := []) C As hy hlk hct hh hq hcl hstk hn hw hd hk hT (fun M1 hp => n_ws (by rw [List.nil_append]) (K M1 hp)))
def cvI (r : Int32) : Int64 := r.toInt64
def cvZ (r : Int32) : Int64 := if r = 0 then 0 else 1
def yL_screw : MethodName := ⟨RL, "screw", "(LRainbowPlate;IIII)I"⟩
def TL_screw : List (Nat × Instr × Nat) := [(0, .aload_n 0, 1), (1, .iload_n 1, 1), (2, .iload_n 2, 1), (3, .iload_n 3, 1), (4, .iload 4, 2), (6, .invokevirtual 7, 3), (9, .goto 7, 3), (12, .astore 5, 2), (14, .iconst 1, 1), (15, .ireturn, 1), (16, .iconst 0, 1), (17, .ireturn, 1)]
theorem tL_screw : tabOK method_3_code TL_screw = true := by decide +kernel
theorem meL_screw : MeV yX11_screw cX11_screw 5 none 4 := ⟨⟨gw 105 (by decide +kernel) (by decide +kernel), gw 828 (by decide +kernel) (by decide +kernel), by decide +kernel, by decide⟩, gw 826 (by decide +kernel) (by decide +kernel), gw 827 (by decide +kernel) (by decide +kernel)⟩
theorem mh_screw : MeH yL_screw method_3_code 6 [(0, 9, 12, 13)] 5 := ⟨gw 104 (by decide +kernel) (by decide +kernel), gw 823 (by decide +kernel) (by decide +kernel), by decide +kernel, by decide, gw 822 (by decide +kernel) (by decide +kernel)⟩
theorem lkL_screw : Cond.methodLink RL 7 yX11_screw ∈ GW := gw 825 (by decide +kernel) (by decide +kernel)
theorem hc_screw {l : Launch} {g : GT} {ext : List CD} {sk : Nat → Nat} {ao : Nat} {cL : ClassId} {x1 x2 x3 x4 : Int32} {M : Mem} {f : Nat → Int64} {post : Int32 → Mem → (Nat → Int64) → Prop} (h : P_R_screw (fun M1 => post 0 M1 f) (fun E M1 => (E = IAE ∧ post 1 M1 f)) x1 x2 x3 x4 M) : HI l g (layC ++ ext) sk ao cL yL_screw method_3_code 6 8 2 [(0, 9, 12, 13)] [.ref (ad g 0), .int x1, .int x2, .int x3, .int x4] M f post := by
  refine hi_of (by decide) (Nat.le_of_ble_eq_true rfl) ?_
  rintro X A Z rfl C hte RT
  refine n_aload_n C.1 (tk tL_screw 0 rfl) rfl ?_
  refine n_iload_n C.1 (tk tL_screw 1 rfl) rfl ?_
  refine n_iload_n C.1 (tk tL_screw 2 rfl) rfl ?_
  refine n_iload_n C.1 (tk tL_screw 3 rfl) rfl ?_
  refine n_iload C.1 (tk tL_screw 4 rfl) rfl ?_
  refine h_callV0 C (suf := [(ao, ouE cL f)]) [.int x1, .int x2, .int x3, .int x4] meL_screw lkL_screw (ct_R_screw h) (by decide) lc0 rfl rfl rfl (Nat.le_of_ble_eq_true rfl) (tk tL_screw 5 rfl) ⟨Nat.le_of_ble_eq_true rfl, Nat.le_of_ble_eq_true rfl⟩ ?_ ?_
  · rintro E M1 ⟨rfl, hp⟩ H locs ls q9 ce hP hD hS hl hq hv hc
    all_goals rw [List.nil_append] at hP hD
    refine h_catch C hte (l1 := []) (l2 := []) (x := (0, 9, 12, 13)) rfl (by nofun) (by decide) (by decide) cl_IAE ca_IAE hP hD hS hl hq hv hc ?_
    refine n_astore C.1 (tk tL_screw 7 rfl) (by decide) rfl ?_
    refine n_iconst C.1 1 (tk tL_screw 8 rfl) rfl ?_
    exact RT _ M1 f _ _ (tk tL_screw 9 rfl) hp
  · intro M1 hp
    refine n_goto C.1 16 (tk tL_screw 6 rfl) (by decide) ?_
    refine n_iconst C.1 0 (tk tL_screw 10 rfl) rfl ?_
    exact RT _ M1 f _ _ (tk tL_screw 11 rfl) hp
def yL_truly : MethodName := ⟨RL, "truly", "(LRainbowPlate;IZ[J)I"⟩
def TL_truly : List (Nat × Instr × Nat) := [(0, .aload_n 3, 1), (1, .iconst 0, 1), (2, .aload_n 0, 1), (3, .iload_n 1, 1), (4, .iload_n 2, 1), (5, .invokevirtual 15, 3), (8, .i2l, 1), (9, .lastore, 1), (10, .goto 7, 3), (13, .astore 4, 2), (15, .iconst 1, 1), (16, .ireturn, 1), (17, .iconst 0, 1), (18, .ireturn, 1)]
theorem tL_truly : tabOK method_4_code TL_truly = true := by decide +kernel
theorem meL_truly : MeV yX11_truly cX11_truly 3 (some .int) 2 := ⟨⟨gw 105 (by decide +kernel) (by decide +kernel), gw 907 (by decide +kernel) (by decide +kernel), by decide +kernel, by decide⟩, gw 905 (by decide +kernel) (by decide +kernel), gw 906 (by decide +kernel) (by decide +kernel)⟩
theorem mh_truly : MeH yL_truly method_4_code 5 [(0, 10, 13, 13)] 4 := ⟨gw 104 (by decide +kernel) (by decide +kernel), gw 903 (by decide +kernel) (by decide +kernel), by decide +kernel, by decide, gw 902 (by decide +kernel) (by decide +kernel)⟩
theorem lkL_truly : Cond.methodLink RL 15 yX11_truly ∈ GW := gw 904 (by decide +kernel) (by decide +kernel)
theorem hc_truly {l : Launch} {g : GT} {ext : List CD} {sk : Nat → Nat} {ao : Nat} {cL : ClassId} {x1 x2 : Int32} {M : Mem} {f : Nat → Int64} {post : Int32 → Mem → (Nat → Int64) → Prop} (h : P_R_truly (fun r M1 => post 0 M1 (vp_updL f 0 (cvI r))) (fun E M1 => (E = IAE ∧ post 1 M1 f)) x1 x2 M) : HI l g (layC ++ ext) sk ao cL yL_truly method_4_code 5 8 1 [(0, 10, 13, 13)] [.ref (ad g 0), .int x1, .int x2, .ref ao] M f post := by
  refine hi_of (by decide) (Nat.le_of_ble_eq_true rfl) ?_
  rintro X A Z rfl C hte RT
  refine n_aload_n C.1 (tk tL_truly 0 rfl) rfl ?_
  refine n_iconst C.1 0 (tk tL_truly 1 rfl) rfl ?_
  refine n_aload_n C.1 (tk tL_truly 2 rfl) rfl ?_
  refine n_iload_n C.1 (tk tL_truly 3 rfl) rfl ?_
  refine n_iload_n C.1 (tk tL_truly 4 rfl) rfl ?_
  refine h_callI0 C (suf := [(ao, ouE cL f)]) [.int x1, .int x2] meL_truly lkL_truly (ct_R_truly h) (by decide) lc0 rfl rfl rfl (Nat.le_of_ble_eq_true rfl) (tk tL_truly 5 rfl) ⟨Nat.le_of_ble_eq_true rfl, Nat.le_of_ble_eq_true rfl⟩ ?_ ?_
  · rintro E M1 ⟨rfl, hp⟩ H locs ls q9 ce hP hD hS hl hq hv hc
    all_goals rw [List.nil_append] at hP hD
    refine h_catch C hte (l1 := []) (l2 := []) (x := (0, 10, 13, 13)) rfl (by nofun) (by decide) (by decide) cl_IAE ca_IAE hP hD hS hl hq hv hc ?_
    refine n_astore C.1 (tk tL_truly 9 rfl) (by decide) rfl ?_
    refine n_iconst C.1 1 (tk tL_truly 10 rfl) rfl ?_
    exact RT _ M1 f _ _ (tk tL_truly 11 rfl) hp
  · intro r M1 hp
    refine n_i2l C.1 (tk tL_truly 6 rfl) ?_
    refine h_last C (ws := wl g (layC ++ ext) M1) (tk tL_truly 7 rfl) ?_
    refine n_goto C.1 17 (tk tL_truly 8 rfl) (by decide) ?_
    refine n_iconst C.1 0 (tk tL_truly 12 rfl) rfl ?_
    exact RT _ M1 _ _ _ (tk tL_truly 13 rfl) hp
def yL_gauge : MethodName := ⟨RL, "gauge", "(LRainbowPlate;IZIZI[J)I"⟩
def TL_gauge : List (Nat × Instr × Nat) := [(0, .aload 6, 2), (2, .iconst 0, 1), (3, .aload_n 0, 1), (4, .iload_n 1, 1), (5, .iload_n 2, 1), (6, .iload_n 3, 1), (7, .iload 4, 2), (9, .iload 5, 2), (11, .invokevirtual 19, 3), (14, .i2l, 1), (15, .lastore, 1), (16, .goto 11, 3), (19, .astore 7, 2), (21, .iconst 1, 1), (22, .ireturn, 1), (23, .astore 7, 2), (25, .iconst 2, 1), (26, .ireturn, 1), (27, .iconst 0, 1), (28, .ireturn, 1)]
theorem tL_gauge : tabOK method_5_code TL_gauge = true := by decide +kernel
theorem meL_gauge : MeV yX11_gauge cX11_gauge 8 (some .int) 5 := ⟨⟨gw 105 (by decide +kernel) (by decide +kernel), gw 916 (by decide +kernel) (by decide +kernel), by decide +kernel, by decide⟩, gw 914 (by decide +kernel) (by decide +kernel), gw 915 (by decide +kernel) (by decide +kernel)⟩
theorem mh_gauge : MeH yL_gauge method_5_code 8 [(0, 16, 19, 13), (0, 16, 23, 23)] 7 := ⟨gw 104 (by decide +kernel) (by decide +kernel), gw 911 (by decide +kernel) (by decide +kernel), by decide +kernel, by decide, gw 910 (by decide +kernel) (by decide +kernel)⟩
theorem lkL_gauge : Cond.methodLink RL 19 yX11_gauge ∈ GW := gw 913 (by decide +kernel) (by decide +kernel)
theorem hc_gauge {l : Launch} {g : GT} {ext : List CD} {sk : Nat → Nat} {ao : Nat} {cL : ClassId} {x1 x2 x3 x4 x5 : Int32} {M : Mem} {f : Nat → Int64} {post : Int32 → Mem → (Nat → Int64) → Prop} (h : P_R_gauge (fun r M1 => post 0 M1 (vp_updL f 0 (cvI r))) (fun E M1 => (E = IAE ∧ post 1 M1 f) ∨ (E = UOE ∧ post 2 M1 f)) x1 x2 x3 x4 x5 M) : HI l g (layC ++ ext) sk ao cL yL_gauge method_5_code 8 8 2 [(0, 16, 19, 13), (0, 16, 23, 23)] [.ref (ad g 0), .int x1, .int x2, .int x3, .int x4, .int x5, .ref ao] M f post := by
  refine hi_of (by decide) (Nat.le_of_ble_eq_true rfl) ?_
  rintro X A Z rfl C hte RT
  refine n_aload C.1 (tk tL_gauge 0 rfl) rfl ?_
  refine n_iconst C.1 0 (tk tL_gauge 1 rfl) rfl ?_
  refine n_aload_n C.1 (tk tL_gauge 2 rfl) rfl ?_
  refine n_iload_n C.1 (tk tL_gauge 3 rfl) rfl ?_
  refine n_iload_n C.1 (tk tL_gauge 4 rfl) rfl ?_
  refine n_iload_n C.1 (tk tL_gauge 5 rfl) rfl ?_
  refine n_iload C.1 (tk tL_gauge 6 rfl) rfl ?_
  refine n_iload C.1 (tk tL_gauge 7 rfl) rfl ?_
  refine h_callI0 C (suf := [(ao, ouE cL f)]) [.int x1, .int x2, .int x3, .int x4, .int x5] meL_gauge lkL_gauge (ct_R_gauge h) (by decide) lc0 rfl rfl rfl (Nat.le_of_ble_eq_true rfl) (tk tL_gauge 8 rfl) ⟨Nat.le_of_ble_eq_true rfl, Nat.le_of_ble_eq_true rfl⟩ ?_ ?_
  · rintro E M1 (⟨rfl, hp⟩ | ⟨rfl, hp⟩) H locs ls q9 ce hP hD hS hl hq hv hc
    all_goals rw [List.nil_append] at hP hD
    · refine h_catch C hte (l1 := []) (l2 := [(0, 16, 23, 23)]) (x := (0, 16, 19, 13)) rfl (by nofun) (by decide) (by decide) cl_IAE ca_IAE hP hD hS hl hq hv hc ?_
      refine n_astore C.1 (tk tL_gauge 12 rfl) (by decide) rfl ?_
      refine n_iconst C.1 1 (tk tL_gauge 13 rfl) rfl ?_
      exact RT _ M1 f _ _ (tk tL_gauge 14 rfl) hp
    · refine h_catch C hte (l1 := [(0, 16, 19, 13)]) (l2 := []) (x := (0, 16, 23, 23)) rfl (by simp only [List.mem_cons, List.not_mem_nil, or_false, forall_eq_or_imp, forall_eq]; exact ⟨by decide, _, cl_IAE, C.2.2 _ in_UOE _ in_IAE (by decide)⟩) (by decide) (by decide) cl_UOE ca_UOE hP hD hS hl hq hv hc ?_
      refine n_astore C.1 (tk tL_gauge 15 rfl) (by decide) rfl ?_
      refine n_iconst C.1 2 (tk tL_gauge 16 rfl) rfl ?_
      exact RT _ M1 f _ _ (tk tL_gauge 17 rfl) hp
  · intro r M1 hp
    refine n_i2l C.1 (tk tL_gauge 9 rfl) ?_
    refine h_last C (ws := wl g (layC ++ ext) M1) (tk tL_gauge 10 rfl) ?_
    refine n_goto C.1 27 (tk tL_gauge 11 rfl) (by decide) ?_
    refine n_iconst C.1 0 (tk tL_gauge 18 rfl) rfl ?_
    exact RT _ M1 _ _ _ (tk tL_gauge 19 rfl) hp
def yL_error : MethodName := ⟨RL, "error", "(LRainbowPlate;I)I"⟩
def TL_error : List (Nat × Instr × Nat) := [(0, .aload_n 0, 1), (1, .iload_n 1, 1), (2, .invokevirtual 25, 3), (5, .goto 6, 3), (8, .astore_n 2, 1), (9, .iconst 1, 1), (10, .ireturn, 1), (11, .iconst 0, 1), (12, .ireturn, 1)]
theorem tL_error : tabOK method_6_code TL_error = true := by decide +kernel
theorem meL_error : MeV yX11_error cX11_error 2 none 1 := ⟨⟨gw 105 (by decide +kernel) (by decide +kernel), gw 942 (by decide +kernel) (by decide +kernel), by decide +kernel, by decide⟩, gw 940 (by decide +kernel) (by decide +kernel), gw 941 (by decide +kernel) (by decide +kernel)⟩
theorem mh_error : MeH yL_error method_6_code 3 [(0, 5, 8, 13)] 2 := ⟨gw 104 (by decide +kernel) (by decide +kernel), gw 938 (by decide +kernel) (by decide +kernel), by decide +kernel, by decide, gw 937 (by decide +kernel) (by decide +kernel)⟩
theorem lkL_error : Cond.methodLink RL 25 yX11_error ∈ GW := gw 939 (by decide +kernel) (by decide +kernel)
theorem hc_error {l : Launch} {g : GT} {ext : List CD} {sk : Nat → Nat} {ao : Nat} {cL : ClassId} {x1 : Int32} {M : Mem} {f : Nat → Int64} {post : Int32 → Mem → (Nat → Int64) → Prop} (h : P_R_error (fun M1 => post 0 M1 f) (fun E M1 => (E = IAE ∧ post 1 M1 f)) x1 M) : HI l g (layC ++ ext) sk ao cL yL_error method_6_code 3 8 1 [(0, 5, 8, 13)] [.ref (ad g 0), .int x1] M f post := by
  refine hi_of (by decide) (Nat.le_of_ble_eq_true rfl) ?_
  rintro X A Z rfl C hte RT
  refine n_aload_n C.1 (tk tL_error 0 rfl) rfl ?_
  refine n_iload_n C.1 (tk tL_error 1 rfl) rfl ?_
  refine h_callV0 C (suf := [(ao, ouE cL f)]) [.int x1] meL_error lkL_error (ct_R_error h) (by decide) lc0 rfl rfl rfl (Nat.le_of_ble_eq_true rfl) (tk tL_error 2 rfl) ⟨Nat.le_of_ble_eq_true rfl, Nat.le_of_ble_eq_true rfl⟩ ?_ ?_
  · rintro E M1 ⟨rfl, hp⟩ H locs ls q9 ce hP hD hS hl hq hv hc
    all_goals rw [List.nil_append] at hP hD
    refine h_catch C hte (l1 := []) (l2 := []) (x := (0, 5, 8, 13)) rfl (by nofun) (by decide) (by decide) cl_IAE ca_IAE hP hD hS hl hq hv hc ?_
    refine n_astore_n C.1 (tk tL_error 4 rfl) (by decide) rfl ?_
    refine n_iconst C.1 1 (tk tL_error 5 rfl) rfl ?_
    exact RT _ M1 f _ _ (tk tL_error 6 rfl) hp
  · intro M1 hp
    refine n_goto C.1 11 (tk tL_error 3 rfl) (by decide) ?_
    refine n_iconst C.1 0 (tk tL_error 7 rfl) rfl ?_
    exact RT _ M1 f _ _ (tk tL_error 8 rfl) hp
def yL_known : MethodName := ⟨RL, "known", "(LRainbowPlate;IZIZ[J)I"⟩
def TL_known : List (Nat × Instr × Nat) := [(0, .aload 5, 2), (2, .iconst 0, 1), (3, .aload_n 0, 1), (4, .iload_n 1, 1), (5, .iload_n 2, 1), (6, .iload_n 3, 1), (7, .iload 4, 2), (9, .invokevirtual 29, 3), (12, .i2l, 1), (13, .lastore, 1), (14, .goto 11, 3), (17, .astore 6, 2), (19, .iconst 1, 1), (20, .ireturn, 1), (21, .astore 6, 2), (23, .iconst 2, 1), (24, .ireturn, 1), (25, .iconst 0, 1), (26, .ireturn, 1)]
theorem tL_known : tabOK method_7_code TL_known = true := by decide +kernel
theorem meL_known : MeV yX11_known cX11_known 7 (some .int) 4 := ⟨⟨gw 105 (by decide +kernel) (by decide +kernel), gw 949 (by decide +kernel) (by decide +kernel), by decide +kernel, by decide⟩, gw 947 (by decide +kernel) (by decide +kernel), gw 948 (by decide +kernel) (by decide +kernel)⟩
theorem mh_known : MeH yL_known method_7_code 7 [(0, 14, 17, 13), (0, 14, 21, 23)] 6 := ⟨gw 104 (by decide +kernel) (by decide +kernel), gw 945 (by decide +kernel) (by decide +kernel), by decide +kernel, by decide, gw 944 (by decide +kernel) (by decide +kernel)⟩
theorem lkL_known : Cond.methodLink RL 29 yX11_known ∈ GW := gw 946 (by decide +kernel) (by decide +kernel)
theorem hc_known {l : Launch} {g : GT} {ext : List CD} {sk : Nat → Nat} {ao : Nat} {cL : ClassId} {x1 x2 x3 x4 : Int32} {M : Mem} {f : Nat → Int64} {post : Int32 → Mem → (Nat → Int64) → Prop} (h : P_R_known (fun r M1 => post 0 M1 (vp_updL f 0 (cvI r))) (fun E M1 => (E = IAE ∧ post 1 M1 f) ∨ (E = UOE ∧ post 2 M1 f)) x1 x2 x3 x4 M) : HI l g (layC ++ ext) sk ao cL yL_known method_7_code 7 8 2 [(0, 14, 17, 13), (0, 14, 21, 23)] [.ref (ad g 0), .int x1, .int x2, .int x3, .int x4, .ref ao] M f post := by
  refine hi_of (by decide) (Nat.le_of_ble_eq_true rfl) ?_
  rintro X A Z rfl C hte RT
  refine n_aload C.1 (tk tL_known 0 rfl) rfl ?_
  refine n_iconst C.1 0 (tk tL_known 1 rfl) rfl ?_
  refine n_aload_n C.1 (tk tL_known 2 rfl) rfl ?_
  refine n_iload_n C.1 (tk tL_known 3 rfl) rfl ?_
  refine n_iload_n C.1 (tk tL_known 4 rfl) rfl ?_
  refine n_iload_n C.1 (tk tL_known 5 rfl) rfl ?_
  refine n_iload C.1 (tk tL_known 6 rfl) rfl ?_
  refine h_callI0 C (suf := [(ao, ouE cL f)]) [.int x1, .int x2, .int x3, .int x4] meL_known lkL_known (ct_R_known h) (by decide) lc0 rfl rfl rfl (Nat.le_of_ble_eq_true rfl) (tk tL_known 7 rfl) ⟨Nat.le_of_ble_eq_true rfl, Nat.le_of_ble_eq_true rfl⟩ ?_ ?_
  · rintro E M1 (⟨rfl, hp⟩ | ⟨rfl, hp⟩) H locs ls q9 ce hP hD hS hl hq hv hc
    all_goals rw [List.nil_append] at hP hD
    · refine h_catch C hte (l1 := []) (l2 := [(0, 14, 21, 23)]) (x := (0, 14, 17, 13)) rfl (by nofun) (by decide) (by decide) cl_IAE ca_IAE hP hD hS hl hq hv hc ?_
      refine n_astore C.1 (tk tL_known 11 rfl) (by decide) rfl ?_
      refine n_iconst C.1 1 (tk tL_known 12 rfl) rfl ?_
      exact RT _ M1 f _ _ (tk tL_known 13 rfl) hp
    · refine h_catch C hte (l1 := [(0, 14, 17, 13)]) (l2 := []) (x := (0, 14, 21, 23)) rfl (by simp only [List.mem_cons, List.not_mem_nil, or_false, forall_eq_or_imp, forall_eq]; exact ⟨by decide, _, cl_IAE, C.2.2 _ in_UOE _ in_IAE (by decide)⟩) (by decide) (by decide) cl_UOE ca_UOE hP hD hS hl hq hv hc ?_
      refine n_astore C.1 (tk tL_known 14 rfl) (by decide) rfl ?_
      refine n_iconst C.1 2 (tk tL_known 15 rfl) rfl ?_
      exact RT _ M1 f _ _ (tk tL_known 16 rfl) hp
  · intro r M1 hp
    refine n_i2l C.1 (tk tL_known 8 rfl) ?_
    refine h_last C (ws := wl g (layC ++ ext) M1) (tk tL_known 9 rfl) ?_
    refine n_goto C.1 25 (tk tL_known 10 rfl) (by decide) ?_
    refine n_iconst C.1 0 (tk tL_known 17 rfl) rfl ?_
    exact RT _ M1 _ _ _ (tk tL_known 18 rfl) hp
def yL_law : MethodName := ⟨RL, "law", "(LRainbowPlate;I[J)I"⟩
def TL_law : List (Nat × Instr × Nat) := [(0, .aload_n 2, 1), (1, .iconst 0, 1), (2, .aload_n 0, 1), (3, .iload_n 1, 1), (4, .invokevirtual 33, 3), (7, .i2l, 1), (8, .lastore, 1), (9, .goto 6, 3), (12, .astore_n 3, 1), (13, .iconst 1, 1), (14, .ireturn, 1), (15, .iconst 0, 1), (16, .ireturn, 1)]
theorem tL_law : tabOK method_8_code TL_law = true := by decide +kernel
theorem meL_law : MeV yX11_law cX11_law 2 (some .int) 1 := ⟨⟨gw 105 (by decide +kernel) (by decide +kernel), gw 960 (by decide +kernel) (by decide +kernel), by decide +kernel, by decide⟩, gw 958 (by decide +kernel) (by decide +kernel), gw 959 (by decide +kernel) (by decide +kernel)⟩
theorem mh_law : MeH yL_law method_8_code 4 [(0, 9, 12, 37)] 3 := ⟨gw 104 (by decide +kernel) (by decide +kernel), gw 955 (by decide +kernel) (by decide +kernel), by decide +kernel, by decide, gw 954 (by decide +kernel) (by decide +kernel)⟩
theorem lkL_law : Cond.methodLink RL 33 yX11_law ∈ GW := gw 957 (by decide +kernel) (by decide +kernel)
theorem hc_law {l : Launch} {g : GT} {ext : List CD} {sk : Nat → Nat} {ao : Nat} {cL : ClassId} {x1 : Int32} {M : Mem} {f : Nat → Int64} {post : Int32 → Mem → (Nat → Int64) → Prop} (h : P_R_law (fun r M1 => post 0 M1 (vp_updL f 0 (cvI r))) (fun E M1 => (E = NSE ∧ post 1 M1 f)) x1 M) : HI l g (layC ++ ext) sk ao cL yL_law method_8_code 4 8 1 [(0, 9, 12, 37)] [.ref (ad g 0), .int x1, .ref ao] M f post := by
  refine hi_of (by decide) (Nat.le_of_ble_eq_true rfl) ?_
  rintro X A Z rfl C hte RT
  refine n_aload_n C.1 (tk tL_law 0 rfl) rfl ?_
  refine n_iconst C.1 0 (tk tL_law 1 rfl) rfl ?_
  refine n_aload_n C.1 (tk tL_law 2 rfl) rfl ?_
  refine n_iload_n C.1 (tk tL_law 3 rfl) rfl ?_
  refine h_callI0 C (suf := [(ao, ouE cL f)]) [.int x1] meL_law lkL_law (ct_R_law h) (by decide) lc0 rfl rfl rfl (Nat.le_of_ble_eq_true rfl) (tk tL_law 4 rfl) ⟨Nat.le_of_ble_eq_true rfl, Nat.le_of_ble_eq_true rfl⟩ ?_ ?_
  · rintro E M1 ⟨rfl, hp⟩ H locs ls q9 ce hP hD hS hl hq hv hc
    all_goals rw [List.nil_append] at hP hD
    refine h_catch C hte (l1 := []) (l2 := []) (x := (0, 9, 12, 37)) rfl (by nofun) (by decide) (by decide) cl_NSE ca_NSE hP hD hS hl hq hv hc ?_
    refine n_astore_n C.1 (tk tL_law 8 rfl) (by decide) rfl ?_
    refine n_iconst C.1 1 (tk tL_law 9 rfl) rfl ?_
    exact RT _ M1 f _ _ (tk tL_law 10 rfl) hp
  · intro r M1 hp
    refine n_i2l C.1 (tk tL_law 5 rfl) ?_
    refine h_last C (ws := wl g (layC ++ ext) M1) (tk tL_law 6 rfl) ?_
    refine n_goto C.1 15 (tk tL_law 7 rfl) (by decide) ?_
    refine n_iconst C.1 0 (tk tL_law 11 rfl) rfl ?_
    exact RT _ M1 _ _ _ (tk tL_law 12 rfl) hp
def yL_span : MethodName := ⟨RL, "span", "(LRainbowPlate;IZZ[J)I"⟩
def TL_span : List (Nat × Instr × Nat) := [(0, .aload 4, 2), (2, .iconst 0, 1), (3, .aload_n 0, 1), (4, .iload_n 1, 1), (5, .iload_n 2, 1), (6, .iload_n 3, 1), (7, .invokevirtual 39, 3), (10, .i2l, 1), (11, .lastore, 1), (12, .goto 7, 3), (15, .astore 5, 2), (17, .iconst 1, 1), (18, .ireturn, 1), (19, .iconst 0, 1), (20, .ireturn, 1)]
theorem tL_span : tabOK method_9_code TL_span = true := by decide +kernel
theorem meL_span : MeV yX11_span cX11_span 4 (some .int) 3 := ⟨⟨gw 105 (by decide +kernel) (by decide +kernel), gw 987 (by decide +kernel) (by decide +kernel), by decide +kernel, by decide⟩, gw 985 (by decide +kernel) (by decide +kernel), gw 986 (by decide +kernel) (by decide +kernel)⟩
theorem mh_span : MeH yL_span method_9_code 6 [(0, 12, 15, 13)] 5 := ⟨gw 104 (by decide +kernel) (by decide +kernel), gw 983 (by decide +kernel) (by decide +kernel), by decide +kernel, by decide, gw 982 (by decide +kernel) (by decide +kernel)⟩
theorem lkL_span : Cond.methodLink RL 39 yX11_span ∈ GW := gw 984 (by decide +kernel) (by decide +kernel)
theorem hc_span {l : Launch} {g : GT} {ext : List CD} {sk : Nat → Nat} {ao : Nat} {cL : ClassId} {x1 x2 x3 : Int32} {M : Mem} {f : Nat → Int64} {post : Int32 → Mem → (Nat → Int64) → Prop} (h : P_R_span (fun r M1 => post 0 M1 (vp_updL f 0 (cvI r))) (fun E M1 => (E = IAE ∧ post 1 M1 f)) x1 x2 x3 M) : HI l g (layC ++ ext) sk ao cL yL_span method_9_code 6 8 1 [(0, 12, 15, 13)] [.ref (ad g 0), .int x1, .int x2, .int x3, .ref ao] M f post := by
  refine hi_of (by decide) (Nat.le_of_ble_eq_true rfl) ?_
  rintro X A Z rfl C hte RT
  refine n_aload C.1 (tk tL_span 0 rfl) rfl ?_
  refine n_iconst C.1 0 (tk tL_span 1 rfl) rfl ?_
  refine n_aload_n C.1 (tk tL_span 2 rfl) rfl ?_
  refine n_iload_n C.1 (tk tL_span 3 rfl) rfl ?_
  refine n_iload_n C.1 (tk tL_span 4 rfl) rfl ?_
  refine n_iload_n C.1 (tk tL_span 5 rfl) rfl ?_
  refine h_callI0 C (suf := [(ao, ouE cL f)]) [.int x1, .int x2, .int x3] meL_span lkL_span (ct_R_span h) (by decide) lc0 rfl rfl rfl (Nat.le_of_ble_eq_true rfl) (tk tL_span 6 rfl) ⟨Nat.le_of_ble_eq_true rfl, Nat.le_of_ble_eq_true rfl⟩ ?_ ?_
  · rintro E M1 ⟨rfl, hp⟩ H locs ls q9 ce hP hD hS hl hq hv hc
    all_goals rw [List.nil_append] at hP hD
    refine h_catch C hte (l1 := []) (l2 := []) (x := (0, 12, 15, 13)) rfl (by nofun) (by decide) (by decide) cl_IAE ca_IAE hP hD hS hl hq hv hc ?_
    refine n_astore C.1 (tk tL_span 10 rfl) (by decide) rfl ?_
    refine n_iconst C.1 1 (tk tL_span 11 rfl) rfl ?_
    exact RT _ M1 f _ _ (tk tL_span 12 rfl) hp
  · intro r M1 hp
    refine n_i2l C.1 (tk tL_span 7 rfl) ?_
    refine h_last C (ws := wl g (layC ++ ext) M1) (tk tL_span 8 rfl) ?_
    refine n_goto C.1 19 (tk tL_span 9 rfl) (by decide) ?_
    refine n_iconst C.1 0 (tk tL_span 13 rfl) rfl ?_
    exact RT _ M1 _ _ _ (tk tL_span 14 rfl) hp
def yL_element : MethodName := ⟨RL, "element", "(LRainbowPlate;Z[J)I"⟩
def TL_element : List (Nat × Instr × Nat) := [(0, .aload_n 2, 1), (1, .iconst 0, 1), (2, .aload_n 0, 1), (3, .iload_n 1, 1), (4, .invokevirtual 43, 3), (7, .i2l, 1), (8, .lastore, 1), (9, .goto 6, 3), (12, .astore_n 3, 1), (13, .iconst 1, 1), (14, .ireturn, 1), (15, .iconst 0, 1), (16, .ireturn, 1)]
theorem tL_element : tabOK method_10_code TL_element = true := by decide +kernel
theorem meL_element : MeV yX11_element cX11_element 3 (some .int) 1 := ⟨⟨gw 105 (by decide +kernel) (by decide +kernel), gw 1015 (by decide +kernel) (by decide +kernel), by decide +kernel, by decide⟩, gw 1013 (by decide +kernel) (by decide +kernel), gw 1014 (by decide +kernel) (by decide +kernel)⟩
theorem mh_element : MeH yL_element method_10_code 4 [(0, 9, 12, 23)] 3 := ⟨gw 104 (by decide +kernel) (by decide +kernel), gw 1011 (by decide +kernel) (by decide +kernel), by decide +kernel, by decide, gw 1010 (by decide +kernel) (by decide +kernel)⟩
theorem lkL_element : Cond.methodLink RL 43 yX11_element ∈ GW := gw 1012 (by decide +kernel) (by decide +kernel)
theorem hc_element {l : Launch} {g : GT} {ext : List CD} {sk : Nat → Nat} {ao : Nat} {cL : ClassId} {x1 : Int32} {M : Mem} {f : Nat → Int64} {post : Int32 → Mem → (Nat → Int64) → Prop} (h : P_R_element (fun r M1 => post 0 M1 (vp_updL f 0 (cvI r))) (fun E M1 => (E = UOE ∧ post 1 M1 f)) x1 M) : HI l g (layC ++ ext) sk ao cL yL_element method_10_code 4 8 1 [(0, 9, 12, 23)] [.ref (ad g 0), .int x1, .ref ao] M f post := by
  refine hi_of (by decide) (Nat.le_of_ble_eq_true rfl) ?_
  rintro X A Z rfl C hte RT
  refine n_aload_n C.1 (tk tL_element 0 rfl) rfl ?_
  refine n_iconst C.1 0 (tk tL_element 1 rfl) rfl ?_
  refine n_aload_n C.1 (tk tL_element 2 rfl) rfl ?_
  refine n_iload_n C.1 (tk tL_element 3 rfl) rfl ?_
  refine h_callI0 C (suf := [(ao, ouE cL f)]) [.int x1] meL_element lkL_element (ct_R_element h) (by decide) lc0 rfl rfl rfl (Nat.le_of_ble_eq_true rfl) (tk tL_element 4 rfl) ⟨Nat.le_of_ble_eq_true rfl, Nat.le_of_ble_eq_true rfl⟩ ?_ ?_
  · rintro E M1 ⟨rfl, hp⟩ H locs ls q9 ce hP hD hS hl hq hv hc
    all_goals rw [List.nil_append] at hP hD
    refine h_catch C hte (l1 := []) (l2 := []) (x := (0, 9, 12, 23)) rfl (by nofun) (by decide) (by decide) cl_UOE ca_UOE hP hD hS hl hq hv hc ?_
    refine n_astore_n C.1 (tk tL_element 8 rfl) (by decide) rfl ?_
    refine n_iconst C.1 1 (tk tL_element 9 rfl) rfl ?_
    exact RT _ M1 f _ _ (tk tL_element 10 rfl) hp
  · intro r M1 hp
    refine n_i2l C.1 (tk tL_element 5 rfl) ?_
    refine h_last C (ws := wl g (layC ++ ext) M1) (tk tL_element 6 rfl) ?_
    refine n_goto C.1 15 (tk tL_element 7 rfl) (by decide) ?_
    refine n_iconst C.1 0 (tk tL_element 11 rfl) rfl ?_
    exact RT _ M1 _ _ _ (tk tL_element 12 rfl) hp
def yL_line : MethodName := ⟨RL, "line", "(LRainbowPlate;III[J)I"⟩
def TL_line : List (Nat × Instr × Nat) := [(0, .aload 4, 2), (2, .iconst 0, 1), (3, .aload_n 0, 1), (4, .iload_n 1, 1), (5, .iload_n 2, 1), (6, .iload_n 3, 1), (7, .invokevirtual 47, 3), (10, .i2l, 1), (11, .lastore, 1), (12, .goto 15, 3), (15, .astore 5, 2), (17, .iconst 1, 1), (18, .ireturn, 1), (19, .astore 5, 2), (21, .iconst 2, 1), (22, .ireturn, 1), (23, .astore 5, 2), (25, .iconst 3, 1), (26, .ireturn, 1), (27, .iconst 0, 1), (28, .ireturn, 1)]
theorem tL_line : tabOK method_11_code TL_line = true := by decide +kernel
theorem meL_line : MeV yX11_line cX11_line 6 (some .int) 3 := ⟨⟨gw 105 (by decide +kernel) (by decide +kernel), gw 1023 (by decide +kernel) (by decide +kernel), by decide +kernel, by decide⟩, gw 1021 (by decide +kernel) (by decide +kernel), gw 1022 (by decide +kernel) (by decide +kernel)⟩
theorem mh_line : MeH yL_line method_11_code 6 [(0, 12, 15, 51), (0, 12, 19, 13), (0, 12, 23, 23)] 5 := ⟨gw 104 (by decide +kernel) (by decide +kernel), gw 1018 (by decide +kernel) (by decide +kernel), by decide +kernel, by decide, gw 1017 (by decide +kernel) (by decide +kernel)⟩
theorem lkL_line : Cond.methodLink RL 47 yX11_line ∈ GW := gw 1020 (by decide +kernel) (by decide +kernel)
theorem hc_line {l : Launch} {g : GT} {ext : List CD} {sk : Nat → Nat} {ao : Nat} {cL : ClassId} {x1 x2 x3 : Int32} {M : Mem} {f : Nat → Int64} {post : Int32 → Mem → (Nat → Int64) → Prop} (h : P_R_line (fun r M1 => post 0 M1 (vp_updL f 0 (cvI r))) (fun E M1 => (E = IOB ∧ post 1 M1 f) ∨ (E = IAE ∧ post 2 M1 f) ∨ (E = UOE ∧ post 3 M1 f)) x1 x2 x3 M) : HI l g (layC ++ ext) sk ao cL yL_line method_11_code 6 8 3 [(0, 12, 15, 51), (0, 12, 19, 13), (0, 12, 23, 23)] [.ref (ad g 0), .int x1, .int x2, .int x3, .ref ao] M f post := by
  refine hi_of (by decide) (Nat.le_of_ble_eq_true rfl) ?_
  rintro X A Z rfl C hte RT
  refine n_aload C.1 (tk tL_line 0 rfl) rfl ?_
  refine n_iconst C.1 0 (tk tL_line 1 rfl) rfl ?_
  refine n_aload_n C.1 (tk tL_line 2 rfl) rfl ?_
  refine n_iload_n C.1 (tk tL_line 3 rfl) rfl ?_
  refine n_iload_n C.1 (tk tL_line 4 rfl) rfl ?_
  refine n_iload_n C.1 (tk tL_line 5 rfl) rfl ?_
  refine h_callI0 C (suf := [(ao, ouE cL f)]) [.int x1, .int x2, .int x3] meL_line lkL_line (ct_R_line h) (by decide) lc0 rfl rfl rfl (Nat.le_of_ble_eq_true rfl) (tk tL_line 6 rfl) ⟨Nat.le_of_ble_eq_true rfl, Nat.le_of_ble_eq_true rfl⟩ ?_ ?_
  · rintro E M1 (⟨rfl, hp⟩ | ⟨rfl, hp⟩ | ⟨rfl, hp⟩) H locs ls q9 ce hP hD hS hl hq hv hc
    all_goals rw [List.nil_append] at hP hD
    · refine h_catch C hte (l1 := []) (l2 := [(0, 12, 19, 13), (0, 12, 23, 23)]) (x := (0, 12, 15, 51)) rfl (by nofun) (by decide) (by decide) cl_IOB ca_IOB hP hD hS hl hq hv hc ?_
      refine n_astore C.1 (tk tL_line 10 rfl) (by decide) rfl ?_
      refine n_iconst C.1 1 (tk tL_line 11 rfl) rfl ?_
      exact RT _ M1 f _ _ (tk tL_line 12 rfl) hp
    · refine h_catch C hte (l1 := [(0, 12, 15, 51)]) (l2 := [(0, 12, 23, 23)]) (x := (0, 12, 19, 13)) rfl (by simp only [List.mem_cons, List.not_mem_nil, or_false, forall_eq_or_imp, forall_eq]; exact ⟨by decide, _, cl_IOB, C.2.2 _ in_IAE _ in_IOB (by decide)⟩) (by decide) (by decide) cl_IAE ca_IAE hP hD hS hl hq hv hc ?_
      refine n_astore C.1 (tk tL_line 13 rfl) (by decide) rfl ?_
      refine n_iconst C.1 2 (tk tL_line 14 rfl) rfl ?_
      exact RT _ M1 f _ _ (tk tL_line 15 rfl) hp
    · refine h_catch C hte (l1 := [(0, 12, 15, 51), (0, 12, 19, 13)]) (l2 := []) (x := (0, 12, 23, 23)) rfl (by simp only [List.mem_cons, List.not_mem_nil, or_false, forall_eq_or_imp, forall_eq]; exact ⟨⟨by decide, _, cl_IOB, C.2.2 _ in_UOE _ in_IOB (by decide)⟩, ⟨by decide, _, cl_IAE, C.2.2 _ in_UOE _ in_IAE (by decide)⟩⟩) (by decide) (by decide) cl_UOE ca_UOE hP hD hS hl hq hv hc ?_
      refine n_astore C.1 (tk tL_line 16 rfl) (by decide) rfl ?_
      refine n_iconst C.1 3 (tk tL_line 17 rfl) rfl ?_
      exact RT _ M1 f _ _ (tk tL_line 18 rfl) hp
  · intro r M1 hp
    refine n_i2l C.1 (tk tL_line 7 rfl) ?_
    refine h_last C (ws := wl g (layC ++ ext) M1) (tk tL_line 8 rfl) ?_
    refine n_goto C.1 27 (tk tL_line 9 rfl) (by decide) ?_
    refine n_iconst C.1 0 (tk tL_line 19 rfl) rfl ?_
    exact RT _ M1 _ _ _ (tk tL_line 20 rfl) hp
def yL_plate : MethodName := ⟨RL, "plate", "(LRainbowPlate;IIIII[J)I"⟩
def TL_plate : List (Nat × Instr × Nat) := [(0, .aload 6, 2), (2, .iconst 0, 1), (3, .aload_n 0, 1), (4, .iload_n 1, 1), (5, .iload_n 2, 1), (6, .iload_n 3, 1), (7, .iload 4, 2), (9, .iload 5, 2), (11, .invokevirtual 53, 3), (14, .i2l, 1), (15, .lastore, 1), (16, .goto 11, 3), (19, .astore 7, 2), (21, .iconst 1, 1), (22, .ireturn, 1), (23, .astore 7, 2), (25, .iconst 2, 1), (26, .ireturn, 1), (27, .iconst 0, 1), (28, .ireturn, 1)]
theorem tL_plate : tabOK method_12_code TL_plate = true := by decide +kernel
theorem meL_plate : MeV yX11_plate cX11_plate 8 (some .int) 5 := ⟨⟨gw 105 (by decide +kernel) (by decide +kernel), gw 1049 (by decide +kernel) (by decide +kernel), by decide +kernel, by decide⟩, gw 1047 (by decide +kernel) (by decide +kernel), gw 1048 (by decide +kernel) (by decide +kernel)⟩
theorem mh_plate : MeH yL_plate method_12_code 8 [(0, 16, 19, 13), (0, 16, 23, 23)] 7 := ⟨gw 104 (by decide +kernel) (by decide +kernel), gw 1045 (by decide +kernel) (by decide +kernel), by decide +kernel, by decide, gw 1044 (by decide +kernel) (by decide +kernel)⟩
theorem lkL_plate : Cond.methodLink RL 53 yX11_plate ∈ GW := gw 1046 (by decide +kernel) (by decide +kernel)
theorem hc_plate {l : Launch} {g : GT} {ext : List CD} {sk : Nat → Nat} {ao : Nat} {cL : ClassId} {x1 x2 x3 x4 x5 : Int32} {M : Mem} {f : Nat → Int64} {post : Int32 → Mem → (Nat → Int64) → Prop} (h : P_R_plate (fun r M1 => post 0 M1 (vp_updL f 0 (cvI r))) (fun E M1 => (E = IAE ∧ post 1 M1 f) ∨ (E = UOE ∧ post 2 M1 f)) x1 x2 x3 x4 x5 M) : HI l g (layC ++ ext) sk ao cL yL_plate method_12_code 8 8 3 [(0, 16, 19, 13), (0, 16, 23, 23)] [.ref (ad g 0), .int x1, .int x2, .int x3, .int x4, .int x5, .ref ao] M f post := by
  refine hi_of (by decide) (Nat.le_of_ble_eq_true rfl) ?_
  rintro X A Z rfl C hte RT
  refine n_aload C.1 (tk tL_plate 0 rfl) rfl ?_
  refine n_iconst C.1 0 (tk tL_plate 1 rfl) rfl ?_
  refine n_aload_n C.1 (tk tL_plate 2 rfl) rfl ?_
  refine n_iload_n C.1 (tk tL_plate 3 rfl) rfl ?_
  refine n_iload_n C.1 (tk tL_plate 4 rfl) rfl ?_
  refine n_iload_n C.1 (tk tL_plate 5 rfl) rfl ?_
  refine n_iload C.1 (tk tL_plate 6 rfl) rfl ?_
  refine n_iload C.1 (tk tL_plate 7 rfl) rfl ?_
  refine h_callI0 C (suf := [(ao, ouE cL f)]) [.int x1, .int x2, .int x3, .int x4, .int x5] meL_plate lkL_plate (ct_R_plate h) (by decide) lc0 rfl rfl rfl (Nat.le_of_ble_eq_true rfl) (tk tL_plate 8 rfl) ⟨Nat.le_of_ble_eq_true rfl, Nat.le_of_ble_eq_true rfl⟩ ?_ ?_
  · rintro E M1 (⟨rfl, hp⟩ | ⟨rfl, hp⟩) H locs ls q9 ce hP hD hS hl hq hv hc
    all_goals rw [List.nil_append] at hP hD
    · refine h_catch C hte (l1 := []) (l2 := [(0, 16, 23, 23)]) (x := (0, 16, 19, 13)) rfl (by nofun) (by decide) (by decide) cl_IAE ca_IAE hP hD hS hl hq hv hc ?_
      refine n_astore C.1 (tk tL_plate 12 rfl) (by decide) rfl ?_
      refine n_iconst C.1 1 (tk tL_plate 13 rfl) rfl ?_
      exact RT _ M1 f _ _ (tk tL_plate 14 rfl) hp
    · refine h_catch C hte (l1 := [(0, 16, 19, 13)]) (l2 := []) (x := (0, 16, 23, 23)) rfl (by simp only [List.mem_cons, List.not_mem_nil, or_false, forall_eq_or_imp, forall_eq]; exact ⟨by decide, _, cl_IAE, C.2.2 _ in_UOE _ in_IAE (by decide)⟩) (by decide) (by decide) cl_UOE ca_UOE hP hD hS hl hq hv hc ?_
      refine n_astore C.1 (tk tL_plate 15 rfl) (by decide) rfl ?_
      refine n_iconst C.1 2 (tk tL_plate 16 rfl) rfl ?_
      exact RT _ M1 f _ _ (tk tL_plate 17 rfl) hp
  · intro r M1 hp
    refine n_i2l C.1 (tk tL_plate 9 rfl) ?_
    refine h_last C (ws := wl g (layC ++ ext) M1) (tk tL_plate 10 rfl) ?_
    refine n_goto C.1 27 (tk tL_plate 11 rfl) (by decide) ?_
    refine n_iconst C.1 0 (tk tL_plate 18 rfl) rfl ?_
    exact RT _ M1 _ _ _ (tk tL_plate 19 rfl) hp
def yL_reading : MethodName := ⟨RL, "reading", "(LRainbowPlate;IIZII[J)I"⟩
def TL_reading : List (Nat × Instr × Nat) := [(0, .aload 6, 2), (2, .iconst 0, 1), (3, .aload_n 0, 1), (4, .iload_n 1, 1), (5, .iload_n 2, 1), (6, .iload_n 3, 1), (7, .iload 4, 2), (9, .iload 5, 2), (11, .invokevirtual 57, 3), (14, .i2l, 1), (15, .lastore, 1), (16, .goto 15, 3), (19, .astore 7, 2), (21, .iconst 1, 1), (22, .ireturn, 1), (23, .astore 7, 2), (25, .iconst 2, 1), (26, .ireturn, 1), (27, .astore 7, 2), (29, .iconst 3, 1), (30, .ireturn, 1), (31, .iconst 0, 1), (32, .ireturn, 1)]
theorem tL_reading : tabOK method_13_code TL_reading = true := by decide +kernel
theorem meL_reading : MeV yX11_reading cX11_reading 8 (some .int) 5 := ⟨⟨gw 105 (by decide +kernel) (by decide +kernel), gw 1056 (by decide +kernel) (by decide +kernel), by decide +kernel, by decide⟩, gw 1054 (by decide +kernel) (by decide +kernel), gw 1055 (by decide +kernel) (by decide +kernel)⟩
theorem mh_reading : MeH yL_reading method_13_code 8 [(0, 16, 19, 51), (0, 16, 23, 13), (0, 16, 27, 23)] 7 := ⟨gw 104 (by decide +kernel) (by decide +kernel), gw 1052 (by decide +kernel) (by decide +kernel), by decide +kernel, by decide, gw 1051 (by decide +kernel) (by decide +kernel)⟩
theorem lkL_reading : Cond.methodLink RL 57 yX11_reading ∈ GW := gw 1053 (by decide +kernel) (by decide +kernel)
theorem hc_reading {l : Launch} {g : GT} {ext : List CD} {sk : Nat → Nat} {ao : Nat} {cL : ClassId} {x1 x2 x3 x4 x5 : Int32} {M : Mem} {f : Nat → Int64} {post : Int32 → Mem → (Nat → Int64) → Prop} (h : P_R_reading (fun r M1 => post 0 M1 (vp_updL f 0 (cvI r))) (fun E M1 => (E = IOB ∧ post 1 M1 f) ∨ (E = IAE ∧ post 2 M1 f) ∨ (E = UOE ∧ post 3 M1 f)) x1 x2 x3 x4 x5 M) : HI l g (layC ++ ext) sk ao cL yL_reading method_13_code 8 9 3 [(0, 16, 19, 51), (0, 16, 23, 13), (0, 16, 27, 23)] [.ref (ad g 0), .int x1, .int x2, .int x3, .int x4, .int x5, .ref ao] M f post := by
  refine hi_of (by decide) (Nat.le_of_ble_eq_true rfl) ?_
  rintro X A Z rfl C hte RT
  refine n_aload C.1 (tk tL_reading 0 rfl) rfl ?_
  refine n_iconst C.1 0 (tk tL_reading 1 rfl) rfl ?_
  refine n_aload_n C.1 (tk tL_reading 2 rfl) rfl ?_
  refine n_iload_n C.1 (tk tL_reading 3 rfl) rfl ?_
  refine n_iload_n C.1 (tk tL_reading 4 rfl) rfl ?_
  refine n_iload_n C.1 (tk tL_reading 5 rfl) rfl ?_
  refine n_iload C.1 (tk tL_reading 6 rfl) rfl ?_
  refine n_iload C.1 (tk tL_reading 7 rfl) rfl ?_
  refine h_callI0 C (suf := [(ao, ouE cL f)]) [.int x1, .int x2, .int x3, .int x4, .int x5] meL_reading lkL_reading (ct_R_reading h) (by decide) lc0 rfl rfl rfl (Nat.le_of_ble_eq_true rfl) (tk tL_reading 8 rfl) ⟨Nat.le_of_ble_eq_true rfl, Nat.le_of_ble_eq_true rfl⟩ ?_ ?_
  · rintro E M1 (⟨rfl, hp⟩ | ⟨rfl, hp⟩ | ⟨rfl, hp⟩) H locs ls q9 ce hP hD hS hl hq hv hc
    all_goals rw [List.nil_append] at hP hD
    · refine h_catch C hte (l1 := []) (l2 := [(0, 16, 23, 13), (0, 16, 27, 23)]) (x := (0, 16, 19, 51)) rfl (by nofun) (by decide) (by decide) cl_IOB ca_IOB hP hD hS hl hq hv hc ?_
      refine n_astore C.1 (tk tL_reading 12 rfl) (by decide) rfl ?_
      refine n_iconst C.1 1 (tk tL_reading 13 rfl) rfl ?_
      exact RT _ M1 f _ _ (tk tL_reading 14 rfl) hp
    · refine h_catch C hte (l1 := [(0, 16, 19, 51)]) (l2 := [(0, 16, 27, 23)]) (x := (0, 16, 23, 13)) rfl (by simp only [List.mem_cons, List.not_mem_nil, or_false, forall_eq_or_imp, forall_eq]; exact ⟨by decide, _, cl_IOB, C.2.2 _ in_IAE _ in_IOB (by decide)⟩) (by decide) (by decide) cl_IAE ca_IAE hP hD hS hl hq hv hc ?_
      refine n_astore C.1 (tk tL_reading 15 rfl) (by decide) rfl ?_
      refine n_iconst C.1 2 (tk tL_reading 16 rfl) rfl ?_
      exact RT _ M1 f _ _ (tk tL_reading 17 rfl) hp
    · refine h_catch C hte (l1 := [(0, 16, 19, 51), (0, 16, 23, 13)]) (l2 := []) (x := (0, 16, 27, 23)) rfl (by simp only [List.mem_cons, List.not_mem_nil, or_false, forall_eq_or_imp, forall_eq]; exact ⟨⟨by decide, _, cl_IOB, C.2.2 _ in_UOE _ in_IOB (by decide)⟩, ⟨by decide, _, cl_IAE, C.2.2 _ in_UOE _ in_IAE (by decide)⟩⟩) (by decide) (by decide) cl_UOE ca_UOE hP hD hS hl hq hv hc ?_
      refine n_astore C.1 (tk tL_reading 18 rfl) (by decide) rfl ?_
      refine n_iconst C.1 3 (tk tL_reading 19 rfl) rfl ?_
      exact RT _ M1 f _ _ (tk tL_reading 20 rfl) hp
  · intro r M1 hp
    refine n_i2l C.1 (tk tL_reading 9 rfl) ?_
    refine h_last C (ws := wl g (layC ++ ext) M1) (tk tL_reading 10 rfl) ?_
    refine n_goto C.1 31 (tk tL_reading 11 rfl) (by decide) ?_
    refine n_iconst C.1 0 (tk tL_reading 21 rfl) rfl ?_
    exact RT _ M1 _ _ _ (tk tL_reading 22 rfl) hp
def yL_look : MethodName := ⟨RL, "look", "(LRainbowPlate;II[J)I"⟩
def TL_look : List (Nat × Instr × Nat) := [(0, .aload_n 3, 1), (1, .iconst 0, 1), (2, .aload_n 0, 1), (3, .iload_n 1, 1), (4, .iload_n 2, 1), (5, .invokevirtual 61, 3), (8, .i2l, 1), (9, .lastore, 1), (10, .goto 11, 3), (13, .astore 4, 2), (15, .iconst 1, 1), (16, .ireturn, 1), (17, .astore 4, 2), (19, .iconst 2, 1), (20, .ireturn, 1), (21, .iconst 0, 1), (22, .ireturn, 1)]
theorem tL_look : tabOK method_14_code TL_look = true := by decide +kernel
theorem meL_look : MeV yX11_look cX11_look 5 (some .int) 2 := ⟨⟨gw 105 (by decide +kernel) (by decide +kernel), gw 1067 (by decide +kernel) (by decide +kernel), by decide +kernel, by decide⟩, gw 1065 (by decide +kernel) (by decide +kernel), gw 1066 (by decide +kernel) (by decide +kernel)⟩
theorem mh_look : MeH yL_look method_14_code 5 [(0, 10, 13, 51), (0, 10, 17, 37)] 4 := ⟨gw 104 (by decide +kernel) (by decide +kernel), gw 1063 (by decide +kernel) (by decide +kernel), by decide +kernel, by decide, gw 1062 (by decide +kernel) (by decide +kernel)⟩
theorem lkL_look : Cond.methodLink RL 61 yX11_look ∈ GW := gw 1064 (by decide +kernel) (by decide +kernel)
theorem hc_look {l : Launch} {g : GT} {ext : List CD} {sk : Nat → Nat} {ao : Nat} {cL : ClassId} {x1 x2 : Int32} {M : Mem} {f : Nat → Int64} {post : Int32 → Mem → (Nat → Int64) → Prop} (h : P_R_look (fun r M1 => post 0 M1 (vp_updL f 0 (cvI r))) (fun E M1 => (E = IOB ∧ post 1 M1 f) ∨ (E = NSE ∧ post 2 M1 f)) x1 x2 M) : HI l g (layC ++ ext) sk ao cL yL_look method_14_code 5 8 2 [(0, 10, 13, 51), (0, 10, 17, 37)] [.ref (ad g 0), .int x1, .int x2, .ref ao] M f post := by
  refine hi_of (by decide) (Nat.le_of_ble_eq_true rfl) ?_
  rintro X A Z rfl C hte RT
  refine n_aload_n C.1 (tk tL_look 0 rfl) rfl ?_
  refine n_iconst C.1 0 (tk tL_look 1 rfl) rfl ?_
  refine n_aload_n C.1 (tk tL_look 2 rfl) rfl ?_
  refine n_iload_n C.1 (tk tL_look 3 rfl) rfl ?_
  refine n_iload_n C.1 (tk tL_look 4 rfl) rfl ?_
  refine h_callI0 C (suf := [(ao, ouE cL f)]) [.int x1, .int x2] meL_look lkL_look (ct_R_look h) (by decide) lc0 rfl rfl rfl (Nat.le_of_ble_eq_true rfl) (tk tL_look 5 rfl) ⟨Nat.le_of_ble_eq_true rfl, Nat.le_of_ble_eq_true rfl⟩ ?_ ?_
  · rintro E M1 (⟨rfl, hp⟩ | ⟨rfl, hp⟩) H locs ls q9 ce hP hD hS hl hq hv hc
    all_goals rw [List.nil_append] at hP hD
    · refine h_catch C hte (l1 := []) (l2 := [(0, 10, 17, 37)]) (x := (0, 10, 13, 51)) rfl (by nofun) (by decide) (by decide) cl_IOB ca_IOB hP hD hS hl hq hv hc ?_
      refine n_astore C.1 (tk tL_look 9 rfl) (by decide) rfl ?_
      refine n_iconst C.1 1 (tk tL_look 10 rfl) rfl ?_
      exact RT _ M1 f _ _ (tk tL_look 11 rfl) hp
    · refine h_catch C hte (l1 := [(0, 10, 13, 51)]) (l2 := []) (x := (0, 10, 17, 37)) rfl (by simp only [List.mem_cons, List.not_mem_nil, or_false, forall_eq_or_imp, forall_eq]; exact ⟨by decide, _, cl_IOB, C.2.2 _ in_NSE _ in_IOB (by decide)⟩) (by decide) (by decide) cl_NSE ca_NSE hP hD hS hl hq hv hc ?_
      refine n_astore C.1 (tk tL_look 12 rfl) (by decide) rfl ?_
      refine n_iconst C.1 2 (tk tL_look 13 rfl) rfl ?_
      exact RT _ M1 f _ _ (tk tL_look 14 rfl) hp
  · intro r M1 hp
    refine n_i2l C.1 (tk tL_look 6 rfl) ?_
    refine h_last C (ws := wl g (layC ++ ext) M1) (tk tL_look 7 rfl) ?_
    refine n_goto C.1 21 (tk tL_look 8 rfl) (by decide) ?_
    refine n_iconst C.1 0 (tk tL_look 15 rfl) rfl ?_
    exact RT _ M1 _ _ _ (tk tL_look 16 rfl) hp
def yL_lies : MethodName := ⟨RL, "lies", "(LRainbowPlate;III[J)I"⟩
def TL_lies : List (Nat × Instr × Nat) := [(0, .aload 4, 2), (2, .iconst 0, 1), (3, .aload_n 0, 1), (4, .iload_n 1, 1), (5, .iload_n 2, 1), (6, .iload_n 3, 1), (7, .invokevirtual 65, 3), (10, .i2l, 1), (11, .lastore, 1), (12, .goto 11, 3), (15, .astore 5, 2), (17, .iconst 1, 1), (18, .ireturn, 1), (19, .astore 5, 2), (21, .iconst 2, 1), (22, .ireturn, 1), (23, .iconst 0, 1), (24, .ireturn, 1)]
theorem tL_lies : tabOK method_15_code TL_lies = true := by decide +kernel
theorem meL_lies : MeV yX11_lies cX11_lies 4 (some .int) 3 := ⟨⟨gw 105 (by decide +kernel) (by decide +kernel), gw 1075 (by decide +kernel) (by decide +kernel), by decide +kernel, by decide⟩, gw 1073 (by decide +kernel) (by decide +kernel), gw 1074 (by decide +kernel) (by decide +kernel)⟩
theorem mh_lies : MeH yL_lies method_15_code 6 [(0, 12, 15, 51), (0, 12, 19, 13)] 5 := ⟨gw 104 (by decide +kernel) (by decide +kernel), gw 1071 (by decide +kernel) (by decide +kernel), by decide +kernel, by decide, gw 1070 (by decide +kernel) (by decide +kernel)⟩
theorem lkL_lies : Cond.methodLink RL 65 yX11_lies ∈ GW := gw 1072 (by decide +kernel) (by decide +kernel)
theorem hc_lies {l : Launch} {g : GT} {ext : List CD} {sk : Nat → Nat} {ao : Nat} {cL : ClassId} {x1 x2 x3 : Int32} {M : Mem} {f : Nat → Int64} {post : Int32 → Mem → (Nat → Int64) → Prop} (h : P_R_lies (fun r M1 => post 0 M1 (vp_updL f 0 (cvI r))) (fun E M1 => (E = IOB ∧ post 1 M1 f) ∨ (E = IAE ∧ post 2 M1 f)) x1 x2 x3 M) : HI l g (layC ++ ext) sk ao cL yL_lies method_15_code 6 10 3 [(0, 12, 15, 51), (0, 12, 19, 13)] [.ref (ad g 0), .int x1, .int x2, .int x3, .ref ao] M f post := by
  refine hi_of (by decide) (Nat.le_of_ble_eq_true rfl) ?_
  rintro X A Z rfl C hte RT
  refine n_aload C.1 (tk tL_lies 0 rfl) rfl ?_
  refine n_iconst C.1 0 (tk tL_lies 1 rfl) rfl ?_
  refine n_aload_n C.1 (tk tL_lies 2 rfl) rfl ?_
  refine n_iload_n C.1 (tk tL_lies 3 rfl) rfl ?_
  refine n_iload_n C.1 (tk tL_lies 4 rfl) rfl ?_
  refine n_iload_n C.1 (tk tL_lies 5 rfl) rfl ?_
  refine h_callI0 C (suf := [(ao, ouE cL f)]) [.int x1, .int x2, .int x3] meL_lies lkL_lies (ct_R_lies h) (by decide) lc0 rfl rfl rfl (Nat.le_of_ble_eq_true rfl) (tk tL_lies 6 rfl) ⟨Nat.le_of_ble_eq_true rfl, Nat.le_of_ble_eq_true rfl⟩ ?_ ?_
  · rintro E M1 (⟨rfl, hp⟩ | ⟨rfl, hp⟩) H locs ls q9 ce hP hD hS hl hq hv hc
    all_goals rw [List.nil_append] at hP hD
    · refine h_catch C hte (l1 := []) (l2 := [(0, 12, 19, 13)]) (x := (0, 12, 15, 51)) rfl (by nofun) (by decide) (by decide) cl_IOB ca_IOB hP hD hS hl hq hv hc ?_
      refine n_astore C.1 (tk tL_lies 10 rfl) (by decide) rfl ?_
      refine n_iconst C.1 1 (tk tL_lies 11 rfl) rfl ?_
      exact RT _ M1 f _ _ (tk tL_lies 12 rfl) hp
    · refine h_catch C hte (l1 := [(0, 12, 15, 51)]) (l2 := []) (x := (0, 12, 19, 13)) rfl (by simp only [List.mem_cons, List.not_mem_nil, or_false, forall_eq_or_imp, forall_eq]; exact ⟨by decide, _, cl_IOB, C.2.2 _ in_IAE _ in_IOB (by decide)⟩) (by decide) (by decide) cl_IAE ca_IAE hP hD hS hl hq hv hc ?_
      refine n_astore C.1 (tk tL_lies 13 rfl) (by decide) rfl ?_
      refine n_iconst C.1 2 (tk tL_lies 14 rfl) rfl ?_
      exact RT _ M1 f _ _ (tk tL_lies 15 rfl) hp
  · intro r M1 hp
    refine n_i2l C.1 (tk tL_lies 7 rfl) ?_
    refine h_last C (ws := wl g (layC ++ ext) M1) (tk tL_lies 8 rfl) ?_
    refine n_goto C.1 23 (tk tL_lies 9 rfl) (by decide) ?_
    refine n_iconst C.1 0 (tk tL_lies 16 rfl) rfl ?_
    exact RT _ M1 _ _ _ (tk tL_lies 17 rfl) hp
def yL_must : MethodName := ⟨RL, "must", "(LRainbowPlate;III[J)I"⟩
def TL_must : List (Nat × Instr × Nat) := [(0, .aload 4, 2), (2, .iconst 0, 1), (3, .aload_n 0, 1), (4, .iload_n 1, 1), (5, .iload_n 2, 1), (6, .iload_n 3, 1), (7, .invokevirtual 68, 3), (10, .ifCond .eq 7, 3), (13, .lconst 1, 1), (14, .goto 4, 3), (17, .lconst 0, 1), (18, .lastore, 1), (19, .goto 7, 3), (22, .astore 5, 2), (24, .iconst 1, 1), (25, .ireturn, 1), (26, .iconst 0, 1), (27, .ireturn, 1)]
theorem tL_must : tabOK method_16_code TL_must = true := by decide +kernel
theorem meL_must : MeV yX11_must cX11_must 5 (some .boolean) 3 := ⟨⟨gw 105 (by decide +kernel) (by decide +kernel), gw 1097 (by decide +kernel) (by decide +kernel), by decide +kernel, by decide⟩, gw 1095 (by decide +kernel) (by decide +kernel), gw 1096 (by decide +kernel) (by decide +kernel)⟩
theorem mh_must : MeH yL_must method_16_code 6 [(0, 19, 22, 51)] 5 := ⟨gw 104 (by decide +kernel) (by decide +kernel), gw 1093 (by decide +kernel) (by decide +kernel), by decide +kernel, by decide, gw 1092 (by decide +kernel) (by decide +kernel)⟩
theorem lkL_must : Cond.methodLink RL 68 yX11_must ∈ GW := gw 1094 (by decide +kernel) (by decide +kernel)
theorem hc_must {l : Launch} {g : GT} {ext : List CD} {sk : Nat → Nat} {ao : Nat} {cL : ClassId} {x1 x2 x3 : Int32} {M : Mem} {f : Nat → Int64} {post : Int32 → Mem → (Nat → Int64) → Prop} (h : P_R_must (fun r M1 => post 0 M1 (vp_updL f 0 (cvZ r))) (fun E M1 => (E = IOB ∧ post 1 M1 f)) x1 x2 x3 M) : HI l g (layC ++ ext) sk ao cL yL_must method_16_code 6 10 3 [(0, 19, 22, 51)] [.ref (ad g 0), .int x1, .int x2, .int x3, .ref ao] M f post := by
  refine hi_of (by decide) (Nat.le_of_ble_eq_true rfl) ?_
  rintro X A Z rfl C hte RT
  refine n_aload C.1 (tk tL_must 0 rfl) rfl ?_
  refine n_iconst C.1 0 (tk tL_must 1 rfl) rfl ?_
  refine n_aload_n C.1 (tk tL_must 2 rfl) rfl ?_
  refine n_iload_n C.1 (tk tL_must 3 rfl) rfl ?_
  refine n_iload_n C.1 (tk tL_must 4 rfl) rfl ?_
  refine n_iload_n C.1 (tk tL_must 5 rfl) rfl ?_
  refine h_callI0 C (suf := [(ao, ouE cL f)]) [.int x1, .int x2, .int x3] meL_must lkL_must (ct_R_must h) (by decide) lc0 rfl rfl rfl (Nat.le_of_ble_eq_true rfl) (tk tL_must 6 rfl) ⟨Nat.le_of_ble_eq_true rfl, Nat.le_of_ble_eq_true rfl⟩ ?_ ?_
  · rintro E M1 ⟨rfl, hp⟩ H locs ls q9 ce hP hD hS hl hq hv hc
    all_goals rw [List.nil_append] at hP hD
    refine h_catch C hte (l1 := []) (l2 := []) (x := (0, 19, 22, 51)) rfl (by nofun) (by decide) (by decide) cl_IOB ca_IOB hP hD hS hl hq hv hc ?_
    refine n_astore C.1 (tk tL_must 13 rfl) (by decide) rfl ?_
    refine n_iconst C.1 1 (tk tL_must 14 rfl) rfl ?_
    exact RT _ M1 f _ _ (tk tL_must 15 rfl) hp
  · intro r M1 hp
    refine n_if_eq C.1 17 (tk tL_must 7 rfl) (by decide) (fun e => ?_) (fun e => ?_)
    · have hp : post 0 M1 (vp_updL f 0 0) := by have h9 := hp; unfold cvZ at h9; rw [if_pos e] at h9; exact h9
      refine n_lconst C.1 0 (tk tL_must 10 rfl) rfl ?_
      refine h_last C (ws := wl g (layC ++ ext) M1) (tk tL_must 11 rfl) ?_
      refine n_goto C.1 26 (tk tL_must 12 rfl) (by decide) ?_
      refine n_iconst C.1 0 (tk tL_must 16 rfl) rfl ?_
      exact RT _ M1 _ _ _ (tk tL_must 17 rfl) hp
    · have hp : post 0 M1 (vp_updL f 0 1) := by have h9 := hp; unfold cvZ at h9; rw [if_neg e] at h9; exact h9
      refine n_lconst C.1 1 (tk tL_must 8 rfl) rfl ?_
      refine n_goto C.1 18 (tk tL_must 9 rfl) (by decide) ?_
      refine h_last C (ws := wl g (layC ++ ext) M1) (tk tL_must 11 rfl) ?_
      refine n_goto C.1 26 (tk tL_must 12 rfl) (by decide) ?_
      refine n_iconst C.1 0 (tk tL_must 16 rfl) rfl ?_
      exact RT _ M1 _ _ _ (tk tL_must 17 rfl) hp
def yL_explains : MethodName := ⟨RL, "explains", "(LRainbowPlate;III[J)I"⟩
def TL_explains : List (Nat × Instr × Nat) := [(0, .aload 4, 2), (2, .iconst 0, 1), (3, .aload_n 0, 1), (4, .iload_n 1, 1), (5, .iload_n 2, 1), (6, .iload_n 3, 1), (7, .invokevirtual 72, 3), (10, .ifCond .eq 7, 3), (13, .lconst 1, 1), (14, .goto 4, 3), (17, .lconst 0, 1), (18, .lastore, 1), (19, .goto 11, 3), (22, .astore 5, 2), (24, .iconst 1, 1), (25, .ireturn, 1), (26, .astore 5, 2), (28, .iconst 2, 1), (29, .ireturn, 1), (30, .iconst 0, 1), (31, .ireturn, 1)]
theorem tL_explains : tabOK method_17_code TL_explains = true := by decide +kernel
theorem meL_explains : MeV yX11_explains cX11_explains 4 (some .boolean) 3 := ⟨⟨gw 105 (by decide +kernel) (by decide +kernel), gw 1108 (by decide +kernel) (by decide +kernel), by decide +kernel, by decide⟩, gw 1106 (by decide +kernel) (by decide +kernel), gw 1107 (by decide +kernel) (by decide +kernel)⟩
theorem mh_explains : MeH yL_explains method_17_code 6 [(0, 19, 22, 51), (0, 19, 26, 13)] 5 := ⟨gw 104 (by decide +kernel) (by decide +kernel), gw 1104 (by decide +kernel) (by decide +kernel), by decide +kernel, by decide, gw 1103 (by decide +kernel) (by decide +kernel)⟩
theorem lkL_explains : Cond.methodLink RL 72 yX11_explains ∈ GW := gw 1105 (by decide +kernel) (by decide +kernel)
theorem hc_explains {l : Launch} {g : GT} {ext : List CD} {sk : Nat → Nat} {ao : Nat} {cL : ClassId} {x1 x2 x3 : Int32} {M : Mem} {f : Nat → Int64} {post : Int32 → Mem → (Nat → Int64) → Prop} (h : P_R_explains (fun r M1 => post 0 M1 (vp_updL f 0 (cvZ r))) (fun E M1 => (E = IOB ∧ post 1 M1 f) ∨ (E = IAE ∧ post 2 M1 f)) x1 x2 x3 M) : HI l g (layC ++ ext) sk ao cL yL_explains method_17_code 6 9 2 [(0, 19, 22, 51), (0, 19, 26, 13)] [.ref (ad g 0), .int x1, .int x2, .int x3, .ref ao] M f post := by
  refine hi_of (by decide) (Nat.le_of_ble_eq_true rfl) ?_
  rintro X A Z rfl C hte RT
  refine n_aload C.1 (tk tL_explains 0 rfl) rfl ?_
  refine n_iconst C.1 0 (tk tL_explains 1 rfl) rfl ?_
  refine n_aload_n C.1 (tk tL_explains 2 rfl) rfl ?_
  refine n_iload_n C.1 (tk tL_explains 3 rfl) rfl ?_
  refine n_iload_n C.1 (tk tL_explains 4 rfl) rfl ?_
  refine n_iload_n C.1 (tk tL_explains 5 rfl) rfl ?_
  refine h_callI0 C (suf := [(ao, ouE cL f)]) [.int x1, .int x2, .int x3] meL_explains lkL_explains (ct_R_explains h) (by decide) lc0 rfl rfl rfl (Nat.le_of_ble_eq_true rfl) (tk tL_explains 6 rfl) ⟨Nat.le_of_ble_eq_true rfl, Nat.le_of_ble_eq_true rfl⟩ ?_ ?_
  · rintro E M1 (⟨rfl, hp⟩ | ⟨rfl, hp⟩) H locs ls q9 ce hP hD hS hl hq hv hc
    all_goals rw [List.nil_append] at hP hD
    · refine h_catch C hte (l1 := []) (l2 := [(0, 19, 26, 13)]) (x := (0, 19, 22, 51)) rfl (by nofun) (by decide) (by decide) cl_IOB ca_IOB hP hD hS hl hq hv hc ?_
      refine n_astore C.1 (tk tL_explains 13 rfl) (by decide) rfl ?_
      refine n_iconst C.1 1 (tk tL_explains 14 rfl) rfl ?_
      exact RT _ M1 f _ _ (tk tL_explains 15 rfl) hp
    · refine h_catch C hte (l1 := [(0, 19, 22, 51)]) (l2 := []) (x := (0, 19, 26, 13)) rfl (by simp only [List.mem_cons, List.not_mem_nil, or_false, forall_eq_or_imp, forall_eq]; exact ⟨by decide, _, cl_IOB, C.2.2 _ in_IAE _ in_IOB (by decide)⟩) (by decide) (by decide) cl_IAE ca_IAE hP hD hS hl hq hv hc ?_
      refine n_astore C.1 (tk tL_explains 16 rfl) (by decide) rfl ?_
      refine n_iconst C.1 2 (tk tL_explains 17 rfl) rfl ?_
      exact RT _ M1 f _ _ (tk tL_explains 18 rfl) hp
  · intro r M1 hp
    refine n_if_eq C.1 17 (tk tL_explains 7 rfl) (by decide) (fun e => ?_) (fun e => ?_)
    · have hp : post 0 M1 (vp_updL f 0 0) := by have h9 := hp; unfold cvZ at h9; rw [if_pos e] at h9; exact h9
      refine n_lconst C.1 0 (tk tL_explains 10 rfl) rfl ?_
      refine h_last C (ws := wl g (layC ++ ext) M1) (tk tL_explains 11 rfl) ?_
      refine n_goto C.1 30 (tk tL_explains 12 rfl) (by decide) ?_
      refine n_iconst C.1 0 (tk tL_explains 19 rfl) rfl ?_
      exact RT _ M1 _ _ _ (tk tL_explains 20 rfl) hp
    · have hp : post 0 M1 (vp_updL f 0 1) := by have h9 := hp; unfold cvZ at h9; rw [if_neg e] at h9; exact h9
      refine n_lconst C.1 1 (tk tL_explains 8 rfl) rfl ?_
      refine n_goto C.1 18 (tk tL_explains 9 rfl) (by decide) ?_
      refine h_last C (ws := wl g (layC ++ ext) M1) (tk tL_explains 11 rfl) ?_
      refine n_goto C.1 30 (tk tL_explains 12 rfl) (by decide) ?_
      refine n_iconst C.1 0 (tk tL_explains 19 rfl) rfl ?_
      exact RT _ M1 _ _ _ (tk tL_explains 20 rfl) hp
def yL_sets : MethodName := ⟨RL, "sets", "(LRainbowPlate;II[J)I"⟩
def TL_sets : List (Nat × Instr × Nat) := [(0, .aload_n 3, 1), (1, .iconst 0, 1), (2, .aload_n 0, 1), (3, .iload_n 1, 1), (4, .iload_n 2, 1), (5, .invokevirtual 75, 3), (8, .i2l, 1), (9, .lastore, 1), (10, .goto 11, 3), (13, .astore 4, 2), (15, .iconst 1, 1), (16, .ireturn, 1), (17, .astore 4, 2), (19, .iconst 2, 1), (20, .ireturn, 1), (21, .iconst 0, 1), (22, .ireturn, 1)]
theorem tL_sets : tabOK method_18_code TL_sets = true := by decide +kernel
theorem meL_sets : MeV yX11_sets cX11_sets 3 (some .int) 2 := ⟨⟨gw 105 (by decide +kernel) (by decide +kernel), gw 1157 (by decide +kernel) (by decide +kernel), by decide +kernel, by decide⟩, gw 1155 (by decide +kernel) (by decide +kernel), gw 1156 (by decide +kernel) (by decide +kernel)⟩
theorem mh_sets : MeH yL_sets method_18_code 5 [(0, 10, 13, 51), (0, 10, 17, 37)] 4 := ⟨gw 104 (by decide +kernel) (by decide +kernel), gw 1153 (by decide +kernel) (by decide +kernel), by decide +kernel, by decide, gw 1152 (by decide +kernel) (by decide +kernel)⟩
theorem lkL_sets : Cond.methodLink RL 75 yX11_sets ∈ GW := gw 1154 (by decide +kernel) (by decide +kernel)
theorem hc_sets {l : Launch} {g : GT} {ext : List CD} {sk : Nat → Nat} {ao : Nat} {cL : ClassId} {x1 x2 : Int32} {M : Mem} {f : Nat → Int64} {post : Int32 → Mem → (Nat → Int64) → Prop} (h : P_R_sets (fun r M1 => post 0 M1 (vp_updL f 0 (cvI r))) (fun E M1 => (E = IOB ∧ post 1 M1 f) ∨ (E = NSE ∧ post 2 M1 f)) x1 x2 M) : HI l g (layC ++ ext) sk ao cL yL_sets method_18_code 5 9 2 [(0, 10, 13, 51), (0, 10, 17, 37)] [.ref (ad g 0), .int x1, .int x2, .ref ao] M f post := by
  refine hi_of (by decide) (Nat.le_of_ble_eq_true rfl) ?_
  rintro X A Z rfl C hte RT
  refine n_aload_n C.1 (tk tL_sets 0 rfl) rfl ?_
  refine n_iconst C.1 0 (tk tL_sets 1 rfl) rfl ?_
  refine n_aload_n C.1 (tk tL_sets 2 rfl) rfl ?_
  refine n_iload_n C.1 (tk tL_sets 3 rfl) rfl ?_
  refine n_iload_n C.1 (tk tL_sets 4 rfl) rfl ?_
  refine h_callI0 C (suf := [(ao, ouE cL f)]) [.int x1, .int x2] meL_sets lkL_sets (ct_R_sets h) (by decide) lc0 rfl rfl rfl (Nat.le_of_ble_eq_true rfl) (tk tL_sets 5 rfl) ⟨Nat.le_of_ble_eq_true rfl, Nat.le_of_ble_eq_true rfl⟩ ?_ ?_
  · rintro E M1 (⟨rfl, hp⟩ | ⟨rfl, hp⟩) H locs ls q9 ce hP hD hS hl hq hv hc
    all_goals rw [List.nil_append] at hP hD
    · refine h_catch C hte (l1 := []) (l2 := [(0, 10, 17, 37)]) (x := (0, 10, 13, 51)) rfl (by nofun) (by decide) (by decide) cl_IOB ca_IOB hP hD hS hl hq hv hc ?_
      refine n_astore C.1 (tk tL_sets 9 rfl) (by decide) rfl ?_
      refine n_iconst C.1 1 (tk tL_sets 10 rfl) rfl ?_
      exact RT _ M1 f _ _ (tk tL_sets 11 rfl) hp
    · refine h_catch C hte (l1 := [(0, 10, 13, 51)]) (l2 := []) (x := (0, 10, 17, 37)) rfl (by simp only [List.mem_cons, List.not_mem_nil, or_false, forall_eq_or_imp, forall_eq]; exact ⟨by decide, _, cl_IOB, C.2.2 _ in_NSE _ in_IOB (by decide)⟩) (by decide) (by decide) cl_NSE ca_NSE hP hD hS hl hq hv hc ?_
      refine n_astore C.1 (tk tL_sets 12 rfl) (by decide) rfl ?_
      refine n_iconst C.1 2 (tk tL_sets 13 rfl) rfl ?_
      exact RT _ M1 f _ _ (tk tL_sets 14 rfl) hp
  · intro r M1 hp
    refine n_i2l C.1 (tk tL_sets 6 rfl) ?_
    refine h_last C (ws := wl g (layC ++ ext) M1) (tk tL_sets 7 rfl) ?_
    refine n_goto C.1 21 (tk tL_sets 8 rfl) (by decide) ?_
    refine n_iconst C.1 0 (tk tL_sets 15 rfl) rfl ?_
    exact RT _ M1 _ _ _ (tk tL_sets 16 rfl) hp
def yL_left : MethodName := ⟨RL, "left", "(LRainbowPlate;III[J)I"⟩
def TL_left : List (Nat × Instr × Nat) := [(0, .aload 4, 2), (2, .iconst 0, 1), (3, .aload_n 0, 1), (4, .iload_n 1, 1), (5, .iload_n 2, 1), (6, .iload_n 3, 1), (7, .invokevirtual 78, 3), (10, .i2l, 1), (11, .lastore, 1), (12, .goto 11, 3), (15, .astore 5, 2), (17, .iconst 1, 1), (18, .ireturn, 1), (19, .astore 5, 2), (21, .iconst 2, 1), (22, .ireturn, 1), (23, .iconst 0, 1), (24, .ireturn, 1)]
theorem tL_left : tabOK method_19_code TL_left = true := by decide +kernel
theorem meL_left : MeV yX11_left cX11_left 4 (some .int) 3 := ⟨⟨gw 105 (by decide +kernel) (by decide +kernel), gw 1182 (by decide +kernel) (by decide +kernel), by decide +kernel, by decide⟩, gw 1180 (by decide +kernel) (by decide +kernel), gw 1181 (by decide +kernel) (by decide +kernel)⟩
theorem mh_left : MeH yL_left method_19_code 6 [(0, 12, 15, 51), (0, 12, 19, 13)] 5 := ⟨gw 104 (by decide +kernel) (by decide +kernel), gw 1178 (by decide +kernel) (by decide +kernel), by decide +kernel, by decide, gw 1177 (by decide +kernel) (by decide +kernel)⟩
theorem lkL_left : Cond.methodLink RL 78 yX11_left ∈ GW := gw 1179 (by decide +kernel) (by decide +kernel)
theorem hc_left {l : Launch} {g : GT} {ext : List CD} {sk : Nat → Nat} {ao : Nat} {cL : ClassId} {x1 x2 x3 : Int32} {M : Mem} {f : Nat → Int64} {post : Int32 → Mem → (Nat → Int64) → Prop} (h : P_R_left (fun r M1 => post 0 M1 (vp_updL f 0 (cvI r))) (fun E M1 => (E = IOB ∧ post 1 M1 f) ∨ (E = IAE ∧ post 2 M1 f)) x1 x2 x3 M) : HI l g (layC ++ ext) sk ao cL yL_left method_19_code 6 9 2 [(0, 12, 15, 51), (0, 12, 19, 13)] [.ref (ad g 0), .int x1, .int x2, .int x3, .ref ao] M f post := by
  refine hi_of (by decide) (Nat.le_of_ble_eq_true rfl) ?_
  rintro X A Z rfl C hte RT
  refine n_aload C.1 (tk tL_left 0 rfl) rfl ?_
  refine n_iconst C.1 0 (tk tL_left 1 rfl) rfl ?_
  refine n_aload_n C.1 (tk tL_left 2 rfl) rfl ?_
  refine n_iload_n C.1 (tk tL_left 3 rfl) rfl ?_
  refine n_iload_n C.1 (tk tL_left 4 rfl) rfl ?_
  refine n_iload_n C.1 (tk tL_left 5 rfl) rfl ?_
  refine h_callI0 C (suf := [(ao, ouE cL f)]) [.int x1, .int x2, .int x3] meL_left lkL_left (ct_R_left h) (by decide) lc0 rfl rfl rfl (Nat.le_of_ble_eq_true rfl) (tk tL_left 6 rfl) ⟨Nat.le_of_ble_eq_true rfl, Nat.le_of_ble_eq_true rfl⟩ ?_ ?_
  · rintro E M1 (⟨rfl, hp⟩ | ⟨rfl, hp⟩) H locs ls q9 ce hP hD hS hl hq hv hc
    all_goals rw [List.nil_append] at hP hD
    · refine h_catch C hte (l1 := []) (l2 := [(0, 12, 19, 13)]) (x := (0, 12, 15, 51)) rfl (by nofun) (by decide) (by decide) cl_IOB ca_IOB hP hD hS hl hq hv hc ?_
      refine n_astore C.1 (tk tL_left 10 rfl) (by decide) rfl ?_
      refine n_iconst C.1 1 (tk tL_left 11 rfl) rfl ?_
      exact RT _ M1 f _ _ (tk tL_left 12 rfl) hp
    · refine h_catch C hte (l1 := [(0, 12, 15, 51)]) (l2 := []) (x := (0, 12, 19, 13)) rfl (by simp only [List.mem_cons, List.not_mem_nil, or_false, forall_eq_or_imp, forall_eq]; exact ⟨by decide, _, cl_IOB, C.2.2 _ in_IAE _ in_IOB (by decide)⟩) (by decide) (by decide) cl_IAE ca_IAE hP hD hS hl hq hv hc ?_
      refine n_astore C.1 (tk tL_left 13 rfl) (by decide) rfl ?_
      refine n_iconst C.1 2 (tk tL_left 14 rfl) rfl ?_
      exact RT _ M1 f _ _ (tk tL_left 15 rfl) hp
  · intro r M1 hp
    refine n_i2l C.1 (tk tL_left 7 rfl) ?_
    refine h_last C (ws := wl g (layC ++ ext) M1) (tk tL_left 8 rfl) ?_
    refine n_goto C.1 23 (tk tL_left 9 rfl) (by decide) ?_
    refine n_iconst C.1 0 (tk tL_left 16 rfl) rfl ?_
    exact RT _ M1 _ _ _ (tk tL_left 17 rfl) hp
def yL_missed : MethodName := ⟨RL, "missed", "(LRainbowPlate;III[J)I"⟩
def TL_missed : List (Nat × Instr × Nat) := [(0, .aload 4, 2), (2, .iconst 0, 1), (3, .aload_n 0, 1), (4, .iload_n 1, 1), (5, .iload_n 2, 1), (6, .iload_n 3, 1), (7, .invokevirtual 81, 3), (10, .i2l, 1), (11, .lastore, 1), (12, .goto 11, 3), (15, .astore 5, 2), (17, .iconst 1, 1), (18, .ireturn, 1), (19, .astore 5, 2), (21, .iconst 2, 1), (22, .ireturn, 1), (23, .iconst 0, 1), (24, .ireturn, 1)]
theorem tL_missed : tabOK method_20_code TL_missed = true := by decide +kernel
theorem meL_missed : MeV yX11_missed cX11_missed 4 (some .int) 3 := ⟨⟨gw 105 (by decide +kernel) (by decide +kernel), gw 1193 (by decide +kernel) (by decide +kernel), by decide +kernel, by decide⟩, gw 1191 (by decide +kernel) (by decide +kernel), gw 1192 (by decide +kernel) (by decide +kernel)⟩
theorem mh_missed : MeH yL_missed method_20_code 6 [(0, 12, 15, 51), (0, 12, 19, 13)] 5 := ⟨gw 104 (by decide +kernel) (by decide +kernel), gw 1189 (by decide +kernel) (by decide +kernel), by decide +kernel, by decide, gw 1188 (by decide +kernel) (by decide +kernel)⟩
theorem lkL_missed : Cond.methodLink RL 81 yX11_missed ∈ GW := gw 1190 (by decide +kernel) (by decide +kernel)
theorem hc_missed {l : Launch} {g : GT} {ext : List CD} {sk : Nat → Nat} {ao : Nat} {cL : ClassId} {x1 x2 x3 : Int32} {M : Mem} {f : Nat → Int64} {post : Int32 → Mem → (Nat → Int64) → Prop} (h : P_R_missed (fun r M1 => post 0 M1 (vp_updL f 0 (cvI r))) (fun E M1 => (E = IOB ∧ post 1 M1 f) ∨ (E = IAE ∧ post 2 M1 f)) x1 x2 x3 M) : HI l g (layC ++ ext) sk ao cL yL_missed method_20_code 6 9 2 [(0, 12, 15, 51), (0, 12, 19, 13)] [.ref (ad g 0), .int x1, .int x2, .int x3, .ref ao] M f post := by
  refine hi_of (by decide) (Nat.le_of_ble_eq_true rfl) ?_
  rintro X A Z rfl C hte RT
  refine n_aload C.1 (tk tL_missed 0 rfl) rfl ?_
  refine n_iconst C.1 0 (tk tL_missed 1 rfl) rfl ?_
  refine n_aload_n C.1 (tk tL_missed 2 rfl) rfl ?_
  refine n_iload_n C.1 (tk tL_missed 3 rfl) rfl ?_
  refine n_iload_n C.1 (tk tL_missed 4 rfl) rfl ?_
  refine n_iload_n C.1 (tk tL_missed 5 rfl) rfl ?_
  refine h_callI0 C (suf := [(ao, ouE cL f)]) [.int x1, .int x2, .int x3] meL_missed lkL_missed (ct_R_missed h) (by decide) lc0 rfl rfl rfl (Nat.le_of_ble_eq_true rfl) (tk tL_missed 6 rfl) ⟨Nat.le_of_ble_eq_true rfl, Nat.le_of_ble_eq_true rfl⟩ ?_ ?_
  · rintro E M1 (⟨rfl, hp⟩ | ⟨rfl, hp⟩) H locs ls q9 ce hP hD hS hl hq hv hc
    all_goals rw [List.nil_append] at hP hD
    · refine h_catch C hte (l1 := []) (l2 := [(0, 12, 19, 13)]) (x := (0, 12, 15, 51)) rfl (by nofun) (by decide) (by decide) cl_IOB ca_IOB hP hD hS hl hq hv hc ?_
      refine n_astore C.1 (tk tL_missed 10 rfl) (by decide) rfl ?_
      refine n_iconst C.1 1 (tk tL_missed 11 rfl) rfl ?_
      exact RT _ M1 f _ _ (tk tL_missed 12 rfl) hp
    · refine h_catch C hte (l1 := [(0, 12, 15, 51)]) (l2 := []) (x := (0, 12, 19, 13)) rfl (by simp only [List.mem_cons, List.not_mem_nil, or_false, forall_eq_or_imp, forall_eq]; exact ⟨by decide, _, cl_IOB, C.2.2 _ in_IAE _ in_IOB (by decide)⟩) (by decide) (by decide) cl_IAE ca_IAE hP hD hS hl hq hv hc ?_
      refine n_astore C.1 (tk tL_missed 13 rfl) (by decide) rfl ?_
      refine n_iconst C.1 2 (tk tL_missed 14 rfl) rfl ?_
      exact RT _ M1 f _ _ (tk tL_missed 15 rfl) hp
  · intro r M1 hp
    refine n_i2l C.1 (tk tL_missed 7 rfl) ?_
    refine h_last C (ws := wl g (layC ++ ext) M1) (tk tL_missed 8 rfl) ?_
    refine n_goto C.1 23 (tk tL_missed 9 rfl) (by decide) ?_
    refine n_iconst C.1 0 (tk tL_missed 16 rfl) rfl ?_
    exact RT _ M1 _ _ _ (tk tL_missed 17 rfl) hp
def yL_speeds : MethodName := ⟨RL, "speeds", "(LRainbowPlate;III[J)I"⟩
def TL_speeds : List (Nat × Instr × Nat) := [(0, .aload 4, 2), (2, .iconst 0, 1), (3, .aload_n 0, 1), (4, .iload_n 1, 1), (5, .iload_n 2, 1), (6, .iload_n 3, 1), (7, .invokevirtual 84, 3), (10, .i2l, 1), (11, .lastore, 1), (12, .goto 11, 3), (15, .astore 5, 2), (17, .iconst 1, 1), (18, .ireturn, 1), (19, .astore 5, 2), (21, .iconst 2, 1), (22, .ireturn, 1), (23, .iconst 0, 1), (24, .ireturn, 1)]
theorem tL_speeds : tabOK method_21_code TL_speeds = true := by decide +kernel
theorem meL_speeds : MeV yX11_speeds cX11_speeds 8 (some .int) 3 := ⟨⟨gw 105 (by decide +kernel) (by decide +kernel), gw 1202 (by decide +kernel) (by decide +kernel), by decide +kernel, by decide⟩, gw 1200 (by decide +kernel) (by decide +kernel), gw 1201 (by decide +kernel) (by decide +kernel)⟩
theorem mh_speeds : MeH yL_speeds method_21_code 6 [(0, 12, 15, 51), (0, 12, 19, 37)] 5 := ⟨gw 104 (by decide +kernel) (by decide +kernel), gw 1198 (by decide +kernel) (by decide +kernel), by decide +kernel, by decide, gw 1197 (by decide +kernel) (by decide +kernel)⟩
theorem lkL_speeds : Cond.methodLink RL 84 yX11_speeds ∈ GW := gw 1199 (by decide +kernel) (by decide +kernel)
theorem hc_speeds {l : Launch} {g : GT} {ext : List CD} {sk : Nat → Nat} {ao : Nat} {cL : ClassId} {x1 x2 x3 : Int32} {M : Mem} {f : Nat → Int64} {post : Int32 → Mem → (Nat → Int64) → Prop} (h : P_R_speeds (fun r M1 => post 0 M1 (vp_updL f 0 (cvI r))) (fun E M1 => (E = IOB ∧ post 1 M1 f) ∨ (E = NSE ∧ post 2 M1 f)) x1 x2 x3 M) : HI l g (layC ++ ext) sk ao cL yL_speeds method_21_code 6 9 2 [(0, 12, 15, 51), (0, 12, 19, 37)] [.ref (ad g 0), .int x1, .int x2, .int x3, .ref ao] M f post := by
  refine hi_of (by decide) (Nat.le_of_ble_eq_true rfl) ?_
  rintro X A Z rfl C hte RT
  refine n_aload C.1 (tk tL_speeds 0 rfl) rfl ?_
  refine n_iconst C.1 0 (tk tL_speeds 1 rfl) rfl ?_
  refine n_aload_n C.1 (tk tL_speeds 2 rfl) rfl ?_
  refine n_iload_n C.1 (tk tL_speeds 3 rfl) rfl ?_
  refine n_iload_n C.1 (tk tL_speeds 4 rfl) rfl ?_
  refine n_iload_n C.1 (tk tL_speeds 5 rfl) rfl ?_
  refine h_callI0 C (suf := [(ao, ouE cL f)]) [.int x1, .int x2, .int x3] meL_speeds lkL_speeds (ct_R_speeds h) (by decide) lc0 rfl rfl rfl (Nat.le_of_ble_eq_true rfl) (tk tL_speeds 6 rfl) ⟨Nat.le_of_ble_eq_true rfl, Nat.le_of_ble_eq_true rfl⟩ ?_ ?_
  · rintro E M1 (⟨rfl, hp⟩ | ⟨rfl, hp⟩) H locs ls q9 ce hP hD hS hl hq hv hc
    all_goals rw [List.nil_append] at hP hD
    · refine h_catch C hte (l1 := []) (l2 := [(0, 12, 19, 37)]) (x := (0, 12, 15, 51)) rfl (by nofun) (by decide) (by decide) cl_IOB ca_IOB hP hD hS hl hq hv hc ?_
      refine n_astore C.1 (tk tL_speeds 10 rfl) (by decide) rfl ?_
      refine n_iconst C.1 1 (tk tL_speeds 11 rfl) rfl ?_
      exact RT _ M1 f _ _ (tk tL_speeds 12 rfl) hp
    · refine h_catch C hte (l1 := [(0, 12, 15, 51)]) (l2 := []) (x := (0, 12, 19, 37)) rfl (by simp only [List.mem_cons, List.not_mem_nil, or_false, forall_eq_or_imp, forall_eq]; exact ⟨by decide, _, cl_IOB, C.2.2 _ in_NSE _ in_IOB (by decide)⟩) (by decide) (by decide) cl_NSE ca_NSE hP hD hS hl hq hv hc ?_
      refine n_astore C.1 (tk tL_speeds 13 rfl) (by decide) rfl ?_
      refine n_iconst C.1 2 (tk tL_speeds 14 rfl) rfl ?_
      exact RT _ M1 f _ _ (tk tL_speeds 15 rfl) hp
  · intro r M1 hp
    refine n_i2l C.1 (tk tL_speeds 7 rfl) ?_
    refine h_last C (ws := wl g (layC ++ ext) M1) (tk tL_speeds 8 rfl) ?_
    refine n_goto C.1 23 (tk tL_speeds 9 rfl) (by decide) ?_
    refine n_iconst C.1 0 (tk tL_speeds 16 rfl) rfl ?_
    exact RT _ M1 _ _ _ (tk tL_speeds 17 rfl) hp
def yL_amount : MethodName := ⟨RL, "amount", "(LRainbowPlate;IIIZ[J)I"⟩
def TL_amount : List (Nat × Instr × Nat) := [(0, .aload 5, 2), (2, .iconst 0, 1), (3, .aload_n 0, 1), (4, .iload_n 1, 1), (5, .iload_n 2, 1), (6, .iload_n 3, 1), (7, .iload 4, 2), (9, .invokevirtual 87, 3), (12, .i2l, 1), (13, .lastore, 1), (14, .goto 7, 3), (17, .astore 6, 2), (19, .iconst 1, 1), (20, .ireturn, 1), (21, .iconst 0, 1), (22, .ireturn, 1)]
theorem tL_amount : tabOK method_22_code TL_amount = true := by decide +kernel
theorem meL_amount : MeV yX11_amount cX11_amount 8 (some .int) 4 := ⟨⟨gw 105 (by decide +kernel) (by decide +kernel), gw 1209 (by decide +kernel) (by decide +kernel), by decide +kernel, by decide⟩, gw 1207 (by decide +kernel) (by decide +kernel), gw 1208 (by decide +kernel) (by decide +kernel)⟩
theorem mh_amount : MeH yL_amount method_22_code 7 [(0, 14, 17, 51)] 6 := ⟨gw 104 (by decide +kernel) (by decide +kernel), gw 1205 (by decide +kernel) (by decide +kernel), by decide +kernel, by decide, gw 1204 (by decide +kernel) (by decide +kernel)⟩
theorem lkL_amount : Cond.methodLink RL 87 yX11_amount ∈ GW := gw 1206 (by decide +kernel) (by decide +kernel)
theorem hc_amount {l : Launch} {g : GT} {ext : List CD} {sk : Nat → Nat} {ao : Nat} {cL : ClassId} {x1 x2 x3 x4 : Int32} {M : Mem} {f : Nat → Int64} {post : Int32 → Mem → (Nat → Int64) → Prop} (h : P_R_amount (fun r M1 => post 0 M1 (vp_updL f 0 (cvI r))) (fun E M1 => (E = IOB ∧ post 1 M1 f)) x1 x2 x3 x4 M) : HI l g (layC ++ ext) sk ao cL yL_amount method_22_code 7 9 2 [(0, 14, 17, 51)] [.ref (ad g 0), .int x1, .int x2, .int x3, .int x4, .ref ao] M f post := by
  refine hi_of (by decide) (Nat.le_of_ble_eq_true rfl) ?_
  rintro X A Z rfl C hte RT
  refine n_aload C.1 (tk tL_amount 0 rfl) rfl ?_
  refine n_iconst C.1 0 (tk tL_amount 1 rfl) rfl ?_
  refine n_aload_n C.1 (tk tL_amount 2 rfl) rfl ?_
  refine n_iload_n C.1 (tk tL_amount 3 rfl) rfl ?_
  refine n_iload_n C.1 (tk tL_amount 4 rfl) rfl ?_
  refine n_iload_n C.1 (tk tL_amount 5 rfl) rfl ?_
  refine n_iload C.1 (tk tL_amount 6 rfl) rfl ?_
  refine h_callI0 C (suf := [(ao, ouE cL f)]) [.int x1, .int x2, .int x3, .int x4] meL_amount lkL_amount (ct_R_amount h) (by decide) lc0 rfl rfl rfl (Nat.le_of_ble_eq_true rfl) (tk tL_amount 7 rfl) ⟨Nat.le_of_ble_eq_true rfl, Nat.le_of_ble_eq_true rfl⟩ ?_ ?_
  · rintro E M1 ⟨rfl, hp⟩ H locs ls q9 ce hP hD hS hl hq hv hc
    all_goals rw [List.nil_append] at hP hD
    refine h_catch C hte (l1 := []) (l2 := []) (x := (0, 14, 17, 51)) rfl (by nofun) (by decide) (by decide) cl_IOB ca_IOB hP hD hS hl hq hv hc ?_
    refine n_astore C.1 (tk tL_amount 11 rfl) (by decide) rfl ?_
    refine n_iconst C.1 1 (tk tL_amount 12 rfl) rfl ?_
    exact RT _ M1 f _ _ (tk tL_amount 13 rfl) hp
  · intro r M1 hp
    refine n_i2l C.1 (tk tL_amount 8 rfl) ?_
    refine h_last C (ws := wl g (layC ++ ext) M1) (tk tL_amount 9 rfl) ?_
    refine n_goto C.1 21 (tk tL_amount 10 rfl) (by decide) ?_
    refine n_iconst C.1 0 (tk tL_amount 14 rfl) rfl ?_
    exact RT _ M1 _ _ _ (tk tL_amount 15 rfl) hp
def yL_wide : MethodName := ⟨RL, "wide", "(LRainbowPlate;IIZ[J)I"⟩
def TL_wide : List (Nat × Instr × Nat) := [(0, .aload 4, 2), (2, .iconst 0, 1), (3, .aload_n 0, 1), (4, .iload_n 1, 1), (5, .iload_n 2, 1), (6, .iload_n 3, 1), (7, .invokevirtual 91, 3), (10, .i2l, 1), (11, .lastore, 1), (12, .goto 7, 3), (15, .astore 5, 2), (17, .iconst 1, 1), (18, .ireturn, 1), (19, .iconst 0, 1), (20, .ireturn, 1)]
theorem tL_wide : tabOK method_23_code TL_wide = true := by decide +kernel
theorem meL_wide : MeV yX11_wide cX11_wide 4 (some .int) 3 := ⟨⟨gw 105 (by decide +kernel) (by decide +kernel), gw 1242 (by decide +kernel) (by decide +kernel), by decide +kernel, by decide⟩, gw 1240 (by decide +kernel) (by decide +kernel), gw 1241 (by decide +kernel) (by decide +kernel)⟩
theorem mh_wide : MeH yL_wide method_23_code 6 [(0, 12, 15, 51)] 5 := ⟨gw 104 (by decide +kernel) (by decide +kernel), gw 1238 (by decide +kernel) (by decide +kernel), by decide +kernel, by decide, gw 1237 (by decide +kernel) (by decide +kernel)⟩
theorem lkL_wide : Cond.methodLink RL 91 yX11_wide ∈ GW := gw 1239 (by decide +kernel) (by decide +kernel)
theorem hc_wide {l : Launch} {g : GT} {ext : List CD} {sk : Nat → Nat} {ao : Nat} {cL : ClassId} {x1 x2 x3 : Int32} {M : Mem} {f : Nat → Int64} {post : Int32 → Mem → (Nat → Int64) → Prop} (h : P_R_wide (fun r M1 => post 0 M1 (vp_updL f 0 (cvI r))) (fun E M1 => (E = IOB ∧ post 1 M1 f)) x1 x2 x3 M) : HI l g (layC ++ ext) sk ao cL yL_wide method_23_code 6 9 1 [(0, 12, 15, 51)] [.ref (ad g 0), .int x1, .int x2, .int x3, .ref ao] M f post := by
  refine hi_of (by decide) (Nat.le_of_ble_eq_true rfl) ?_
  rintro X A Z rfl C hte RT
  refine n_aload C.1 (tk tL_wide 0 rfl) rfl ?_
  refine n_iconst C.1 0 (tk tL_wide 1 rfl) rfl ?_
  refine n_aload_n C.1 (tk tL_wide 2 rfl) rfl ?_
  refine n_iload_n C.1 (tk tL_wide 3 rfl) rfl ?_
  refine n_iload_n C.1 (tk tL_wide 4 rfl) rfl ?_
  refine n_iload_n C.1 (tk tL_wide 5 rfl) rfl ?_
  refine h_callI0 C (suf := [(ao, ouE cL f)]) [.int x1, .int x2, .int x3] meL_wide lkL_wide (ct_R_wide h) (by decide) lc0 rfl rfl rfl (Nat.le_of_ble_eq_true rfl) (tk tL_wide 6 rfl) ⟨Nat.le_of_ble_eq_true rfl, Nat.le_of_ble_eq_true rfl⟩ ?_ ?_
  · rintro E M1 ⟨rfl, hp⟩ H locs ls q9 ce hP hD hS hl hq hv hc
    all_goals rw [List.nil_append] at hP hD
    refine h_catch C hte (l1 := []) (l2 := []) (x := (0, 12, 15, 51)) rfl (by nofun) (by decide) (by decide) cl_IOB ca_IOB hP hD hS hl hq hv hc ?_
    refine n_astore C.1 (tk tL_wide 10 rfl) (by decide) rfl ?_
    refine n_iconst C.1 1 (tk tL_wide 11 rfl) rfl ?_
    exact RT _ M1 f _ _ (tk tL_wide 12 rfl) hp
  · intro r M1 hp
    refine n_i2l C.1 (tk tL_wide 7 rfl) ?_
    refine h_last C (ws := wl g (layC ++ ext) M1) (tk tL_wide 8 rfl) ?_
    refine n_goto C.1 19 (tk tL_wide 9 rfl) (by decide) ?_
    refine n_iconst C.1 0 (tk tL_wide 13 rfl) rfl ?_
    exact RT _ M1 _ _ _ (tk tL_wide 14 rfl) hp
def yL_rows : MethodName := ⟨RL, "rows", "(LRainbowPlate;IIIZ[J)I"⟩
def TL_rows : List (Nat × Instr × Nat) := [(0, .aload 5, 2), (2, .iconst 0, 1), (3, .aload_n 0, 1), (4, .iload_n 1, 1), (5, .iload_n 2, 1), (6, .iload_n 3, 1), (7, .iload 4, 2), (9, .invokevirtual 95, 3), (12, .i2l, 1), (13, .lastore, 1), (14, .goto 11, 3), (17, .astore 6, 2), (19, .iconst 1, 1), (20, .ireturn, 1), (21, .astore 6, 2), (23, .iconst 2, 1), (24, .ireturn, 1), (25, .iconst 0, 1), (26, .ireturn, 1)]
theorem tL_rows : tabOK method_24_code TL_rows = true := by decide +kernel
theorem meL_rows : MeV yX11_rows cX11_rows 5 (some .int) 4 := ⟨⟨gw 105 (by decide +kernel) (by decide +kernel), gw 1257 (by decide +kernel) (by decide +kernel), by decide +kernel, by decide⟩, gw 1255 (by decide +kernel) (by decide +kernel), gw 1256 (by decide +kernel) (by decide +kernel)⟩
theorem mh_rows : MeH yL_rows method_24_code 7 [(0, 14, 17, 51), (0, 14, 21, 13)] 6 := ⟨gw 104 (by decide +kernel) (by decide +kernel), gw 1253 (by decide +kernel) (by decide +kernel), by decide +kernel, by decide, gw 1252 (by decide +kernel) (by decide +kernel)⟩
theorem lkL_rows : Cond.methodLink RL 95 yX11_rows ∈ GW := gw 1254 (by decide +kernel) (by decide +kernel)
theorem hc_rows {l : Launch} {g : GT} {ext : List CD} {sk : Nat → Nat} {ao : Nat} {cL : ClassId} {x1 x2 x3 x4 : Int32} {M : Mem} {f : Nat → Int64} {post : Int32 → Mem → (Nat → Int64) → Prop} (h : P_R_rows (fun r M1 => post 0 M1 (vp_updL f 0 (cvI r))) (fun E M1 => (E = IOB ∧ post 1 M1 f) ∨ (E = IAE ∧ post 2 M1 f)) x1 x2 x3 x4 M) : HI l g (layC ++ ext) sk ao cL yL_rows method_24_code 7 9 2 [(0, 14, 17, 51), (0, 14, 21, 13)] [.ref (ad g 0), .int x1, .int x2, .int x3, .int x4, .ref ao] M f post := by
  refine hi_of (by decide) (Nat.le_of_ble_eq_true rfl) ?_
  rintro X A Z rfl C hte RT
  refine n_aload C.1 (tk tL_rows 0 rfl) rfl ?_
  refine n_iconst C.1 0 (tk tL_rows 1 rfl) rfl ?_
  refine n_aload_n C.1 (tk tL_rows 2 rfl) rfl ?_
  refine n_iload_n C.1 (tk tL_rows 3 rfl) rfl ?_
  refine n_iload_n C.1 (tk tL_rows 4 rfl) rfl ?_
  refine n_iload_n C.1 (tk tL_rows 5 rfl) rfl ?_
  refine n_iload C.1 (tk tL_rows 6 rfl) rfl ?_
  refine h_callI0 C (suf := [(ao, ouE cL f)]) [.int x1, .int x2, .int x3, .int x4] meL_rows lkL_rows (ct_R_rows h) (by decide) lc0 rfl rfl rfl (Nat.le_of_ble_eq_true rfl) (tk tL_rows 7 rfl) ⟨Nat.le_of_ble_eq_true rfl, Nat.le_of_ble_eq_true rfl⟩ ?_ ?_
  · rintro E M1 (⟨rfl, hp⟩ | ⟨rfl, hp⟩) H locs ls q9 ce hP hD hS hl hq hv hc
    all_goals rw [List.nil_append] at hP hD
    · refine h_catch C hte (l1 := []) (l2 := [(0, 14, 21, 13)]) (x := (0, 14, 17, 51)) rfl (by nofun) (by decide) (by decide) cl_IOB ca_IOB hP hD hS hl hq hv hc ?_
      refine n_astore C.1 (tk tL_rows 11 rfl) (by decide) rfl ?_
      refine n_iconst C.1 1 (tk tL_rows 12 rfl) rfl ?_
      exact RT _ M1 f _ _ (tk tL_rows 13 rfl) hp
    · refine h_catch C hte (l1 := [(0, 14, 17, 51)]) (l2 := []) (x := (0, 14, 21, 13)) rfl (by simp only [List.mem_cons, List.not_mem_nil, or_false, forall_eq_or_imp, forall_eq]; exact ⟨by decide, _, cl_IOB, C.2.2 _ in_IAE _ in_IOB (by decide)⟩) (by decide) (by decide) cl_IAE ca_IAE hP hD hS hl hq hv hc ?_
      refine n_astore C.1 (tk tL_rows 14 rfl) (by decide) rfl ?_
      refine n_iconst C.1 2 (tk tL_rows 15 rfl) rfl ?_
      exact RT _ M1 f _ _ (tk tL_rows 16 rfl) hp
  · intro r M1 hp
    refine n_i2l C.1 (tk tL_rows 8 rfl) ?_
    refine h_last C (ws := wl g (layC ++ ext) M1) (tk tL_rows 9 rfl) ?_
    refine n_goto C.1 25 (tk tL_rows 10 rfl) (by decide) ?_
    refine n_iconst C.1 0 (tk tL_rows 17 rfl) rfl ?_
    exact RT _ M1 _ _ _ (tk tL_rows 18 rfl) hp
def yL_next : MethodName := ⟨RL, "next", "(LRainbowPlate;IIII[J)I"⟩
def TL_next : List (Nat × Instr × Nat) := [(0, .aload 5, 2), (2, .iconst 0, 1), (3, .aload_n 0, 1), (4, .iload_n 1, 1), (5, .iload_n 2, 1), (6, .iload_n 3, 1), (7, .iload 4, 2), (9, .invokevirtual 98, 3), (12, .i2l, 1), (13, .lastore, 1), (14, .goto 7, 3), (17, .astore 6, 2), (19, .iconst 1, 1), (20, .ireturn, 1), (21, .iconst 0, 1), (22, .ireturn, 1)]
theorem tL_next : tabOK method_25_code TL_next = true := by decide +kernel
theorem meL_next : MeV yX11_next cX11_next 8 (some .int) 4 := ⟨⟨gw 105 (by decide +kernel) (by decide +kernel), gw 1294 (by decide +kernel) (by decide +kernel), by decide +kernel, by decide⟩, gw 1292 (by decide +kernel) (by decide +kernel), gw 1293 (by decide +kernel) (by decide +kernel)⟩
theorem mh_next : MeH yL_next method_25_code 7 [(0, 14, 17, 13)] 6 := ⟨gw 104 (by decide +kernel) (by decide +kernel), gw 1290 (by decide +kernel) (by decide +kernel), by decide +kernel, by decide, gw 1289 (by decide +kernel) (by decide +kernel)⟩
theorem lkL_next : Cond.methodLink RL 98 yX11_next ∈ GW := gw 1291 (by decide +kernel) (by decide +kernel)
theorem hc_next {l : Launch} {g : GT} {ext : List CD} {sk : Nat → Nat} {ao : Nat} {cL : ClassId} {x1 x2 x3 x4 : Int32} {M : Mem} {f : Nat → Int64} {post : Int32 → Mem → (Nat → Int64) → Prop} (h : P_R_next (fun r M1 => post 0 M1 (vp_updL f 0 (cvI r))) (fun E M1 => (E = IAE ∧ post 1 M1 f)) x1 x2 x3 x4 M) : HI l g (layC ++ ext) sk ao cL yL_next method_25_code 7 8 1 [(0, 14, 17, 13)] [.ref (ad g 0), .int x1, .int x2, .int x3, .int x4, .ref ao] M f post := by
  refine hi_of (by decide) (Nat.le_of_ble_eq_true rfl) ?_
  rintro X A Z rfl C hte RT
  refine n_aload C.1 (tk tL_next 0 rfl) rfl ?_
  refine n_iconst C.1 0 (tk tL_next 1 rfl) rfl ?_
  refine n_aload_n C.1 (tk tL_next 2 rfl) rfl ?_
  refine n_iload_n C.1 (tk tL_next 3 rfl) rfl ?_
  refine n_iload_n C.1 (tk tL_next 4 rfl) rfl ?_
  refine n_iload_n C.1 (tk tL_next 5 rfl) rfl ?_
  refine n_iload C.1 (tk tL_next 6 rfl) rfl ?_
  refine h_callI0 C (suf := [(ao, ouE cL f)]) [.int x1, .int x2, .int x3, .int x4] meL_next lkL_next (ct_R_next h) (by decide) lc0 rfl rfl rfl (Nat.le_of_ble_eq_true rfl) (tk tL_next 7 rfl) ⟨Nat.le_of_ble_eq_true rfl, Nat.le_of_ble_eq_true rfl⟩ ?_ ?_
  · rintro E M1 ⟨rfl, hp⟩ H locs ls q9 ce hP hD hS hl hq hv hc
    all_goals rw [List.nil_append] at hP hD
    refine h_catch C hte (l1 := []) (l2 := []) (x := (0, 14, 17, 13)) rfl (by nofun) (by decide) (by decide) cl_IAE ca_IAE hP hD hS hl hq hv hc ?_
    refine n_astore C.1 (tk tL_next 11 rfl) (by decide) rfl ?_
    refine n_iconst C.1 1 (tk tL_next 12 rfl) rfl ?_
    exact RT _ M1 f _ _ (tk tL_next 13 rfl) hp
  · intro r M1 hp
    refine n_i2l C.1 (tk tL_next 8 rfl) ?_
    refine h_last C (ws := wl g (layC ++ ext) M1) (tk tL_next 9 rfl) ?_
    refine n_goto C.1 21 (tk tL_next 10 rfl) (by decide) ?_
    refine n_iconst C.1 0 (tk tL_next 14 rfl) rfl ?_
    exact RT _ M1 _ _ _ (tk tL_next 15 rfl) hp
def yL_misprint : MethodName := ⟨RL, "misprint", "(LRainbowPlate;II[J)I"⟩
def TL_misprint : List (Nat × Instr × Nat) := [(0, .aload_n 3, 1), (1, .iconst 0, 1), (2, .aload_n 0, 1), (3, .iload_n 1, 1), (4, .iload_n 2, 1), (5, .invokevirtual 102, 3), (8, .i2l, 1), (9, .lastore, 1), (10, .goto 7, 3), (13, .astore 4, 2), (15, .iconst 1, 1), (16, .ireturn, 1), (17, .iconst 0, 1), (18, .ireturn, 1)]
theorem tL_misprint : tabOK method_26_code TL_misprint = true := by decide +kernel
theorem meL_misprint : MeV yX11_misprint cX11_misprint 6 (some .int) 2 := ⟨⟨gw 105 (by decide +kernel) (by decide +kernel), gw 1314 (by decide +kernel) (by decide +kernel), by decide +kernel, by decide⟩, gw 1312 (by decide +kernel) (by decide +kernel), gw 1313 (by decide +kernel) (by decide +kernel)⟩
theorem mh_misprint : MeH yL_misprint method_26_code 5 [(0, 10, 13, 51)] 4 := ⟨gw 104 (by decide +kernel) (by decide +kernel), gw 1310 (by decide +kernel) (by decide +kernel), by decide +kernel, by decide, gw 1309 (by decide +kernel) (by decide +kernel)⟩
theorem lkL_misprint : Cond.methodLink RL 102 yX11_misprint ∈ GW := gw 1311 (by decide +kernel) (by decide +kernel)
theorem hc_misprint {l : Launch} {g : GT} {ext : List CD} {sk : Nat → Nat} {ao : Nat} {cL : ClassId} {x1 x2 : Int32} {M : Mem} {f : Nat → Int64} {post : Int32 → Mem → (Nat → Int64) → Prop} (h : P_R_misprint (fun r M1 => post 0 M1 (vp_updL f 0 (cvI r))) (fun E M1 => (E = IOB ∧ post 1 M1 f)) x1 x2 M) : HI l g (layC ++ ext) sk ao cL yL_misprint method_26_code 5 9 2 [(0, 10, 13, 51)] [.ref (ad g 0), .int x1, .int x2, .ref ao] M f post := by
  refine hi_of (by decide) (Nat.le_of_ble_eq_true rfl) ?_
  rintro X A Z rfl C hte RT
  refine n_aload_n C.1 (tk tL_misprint 0 rfl) rfl ?_
  refine n_iconst C.1 0 (tk tL_misprint 1 rfl) rfl ?_
  refine n_aload_n C.1 (tk tL_misprint 2 rfl) rfl ?_
  refine n_iload_n C.1 (tk tL_misprint 3 rfl) rfl ?_
  refine n_iload_n C.1 (tk tL_misprint 4 rfl) rfl ?_
  refine h_callI0 C (suf := [(ao, ouE cL f)]) [.int x1, .int x2] meL_misprint lkL_misprint (ct_R_misprint h) (by decide) lc0 rfl rfl rfl (Nat.le_of_ble_eq_true rfl) (tk tL_misprint 5 rfl) ⟨Nat.le_of_ble_eq_true rfl, Nat.le_of_ble_eq_true rfl⟩ ?_ ?_
  · rintro E M1 ⟨rfl, hp⟩ H locs ls q9 ce hP hD hS hl hq hv hc
    all_goals rw [List.nil_append] at hP hD
    refine h_catch C hte (l1 := []) (l2 := []) (x := (0, 10, 13, 51)) rfl (by nofun) (by decide) (by decide) cl_IOB ca_IOB hP hD hS hl hq hv hc ?_
    refine n_astore C.1 (tk tL_misprint 9 rfl) (by decide) rfl ?_
    refine n_iconst C.1 1 (tk tL_misprint 10 rfl) rfl ?_
    exact RT _ M1 f _ _ (tk tL_misprint 11 rfl) hp
  · intro r M1 hp
    refine n_i2l C.1 (tk tL_misprint 6 rfl) ?_
    refine h_last C (ws := wl g (layC ++ ext) M1) (tk tL_misprint 7 rfl) ?_
    refine n_goto C.1 17 (tk tL_misprint 8 rfl) (by decide) ?_
    refine n_iconst C.1 0 (tk tL_misprint 12 rfl) rfl ?_
    exact RT _ M1 _ _ _ (tk tL_misprint 13 rfl) hp
def yL_alike : MethodName := ⟨RL, "alike", "(LRainbowPlate;II[J)I"⟩
def TL_alike : List (Nat × Instr × Nat) := [(0, .aload_n 3, 1), (1, .iconst 0, 1), (2, .aload_n 0, 1), (3, .iload_n 1, 1), (4, .iload_n 2, 1), (5, .invokevirtual 105, 3), (8, .i2l, 1), (9, .lastore, 1), (10, .goto 7, 3), (13, .astore 4, 2), (15, .iconst 1, 1), (16, .ireturn, 1), (17, .iconst 0, 1), (18, .ireturn, 1)]
theorem tL_alike : tabOK method_27_code TL_alike = true := by decide +kernel
theorem meL_alike : MeV yX11_alike cX11_alike 3 (some .int) 2 := ⟨⟨gw 105 (by decide +kernel) (by decide +kernel), gw 1328 (by decide +kernel) (by decide +kernel), by decide +kernel, by decide⟩, gw 1326 (by decide +kernel) (by decide +kernel), gw 1327 (by decide +kernel) (by decide +kernel)⟩
theorem mh_alike : MeH yL_alike method_27_code 5 [(0, 10, 13, 51)] 4 := ⟨gw 104 (by decide +kernel) (by decide +kernel), gw 1324 (by decide +kernel) (by decide +kernel), by decide +kernel, by decide, gw 1323 (by decide +kernel) (by decide +kernel)⟩
theorem lkL_alike : Cond.methodLink RL 105 yX11_alike ∈ GW := gw 1325 (by decide +kernel) (by decide +kernel)
theorem hc_alike {l : Launch} {g : GT} {ext : List CD} {sk : Nat → Nat} {ao : Nat} {cL : ClassId} {x1 x2 : Int32} {M : Mem} {f : Nat → Int64} {post : Int32 → Mem → (Nat → Int64) → Prop} (h : P_R_alike (fun r M1 => post 0 M1 (vp_updL f 0 (cvI r))) (fun E M1 => (E = IOB ∧ post 1 M1 f)) x1 x2 M) : HI l g (layC ++ ext) sk ao cL yL_alike method_27_code 5 9 2 [(0, 10, 13, 51)] [.ref (ad g 0), .int x1, .int x2, .ref ao] M f post := by
  refine hi_of (by decide) (Nat.le_of_ble_eq_true rfl) ?_
  rintro X A Z rfl C hte RT
  refine n_aload_n C.1 (tk tL_alike 0 rfl) rfl ?_
  refine n_iconst C.1 0 (tk tL_alike 1 rfl) rfl ?_
  refine n_aload_n C.1 (tk tL_alike 2 rfl) rfl ?_
  refine n_iload_n C.1 (tk tL_alike 3 rfl) rfl ?_
  refine n_iload_n C.1 (tk tL_alike 4 rfl) rfl ?_
  refine h_callI0 C (suf := [(ao, ouE cL f)]) [.int x1, .int x2] meL_alike lkL_alike (ct_R_alike h) (by decide) lc0 rfl rfl rfl (Nat.le_of_ble_eq_true rfl) (tk tL_alike 5 rfl) ⟨Nat.le_of_ble_eq_true rfl, Nat.le_of_ble_eq_true rfl⟩ ?_ ?_
  · rintro E M1 ⟨rfl, hp⟩ H locs ls q9 ce hP hD hS hl hq hv hc
    all_goals rw [List.nil_append] at hP hD
    refine h_catch C hte (l1 := []) (l2 := []) (x := (0, 10, 13, 51)) rfl (by nofun) (by decide) (by decide) cl_IOB ca_IOB hP hD hS hl hq hv hc ?_
    refine n_astore C.1 (tk tL_alike 9 rfl) (by decide) rfl ?_
    refine n_iconst C.1 1 (tk tL_alike 10 rfl) rfl ?_
    exact RT _ M1 f _ _ (tk tL_alike 11 rfl) hp
  · intro r M1 hp
    refine n_i2l C.1 (tk tL_alike 6 rfl) ?_
    refine h_last C (ws := wl g (layC ++ ext) M1) (tk tL_alike 7 rfl) ?_
    refine n_goto C.1 17 (tk tL_alike 8 rfl) (by decide) ?_
    refine n_iconst C.1 0 (tk tL_alike 12 rfl) rfl ?_
    exact RT _ M1 _ _ _ (tk tL_alike 13 rfl) hp
def yL_stars : MethodName := ⟨RL, "stars", "(LRainbowPlate;IIII[J)I"⟩
def TL_stars : List (Nat × Instr × Nat) := [(0, .aload 5, 2), (2, .iconst 0, 1), (3, .aload_n 0, 1), (4, .iload_n 1, 1), (5, .iload_n 2, 1), (6, .iload_n 3, 1), (7, .iload 4, 2), (9, .invokevirtual 108, 3), (12, .i2l, 1), (13, .lastore, 1), (14, .goto 11, 3), (17, .astore 6, 2), (19, .iconst 1, 1), (20, .ireturn, 1), (21, .astore 6, 2), (23, .iconst 2, 1), (24, .ireturn, 1), (25, .iconst 0, 1), (26, .ireturn, 1)]
theorem tL_stars : tabOK method_28_code TL_stars = true := by decide +kernel
theorem meL_stars : MeV yX11_stars cX11_stars 5 (some .int) 4 := ⟨⟨gw 105 (by decide +kernel) (by decide +kernel), gw 1344 (by decide +kernel) (by decide +kernel), by decide +kernel, by decide⟩, gw 1342 (by decide +kernel) (by decide +kernel), gw 1343 (by decide +kernel) (by decide +kernel)⟩
theorem mh_stars : MeH yL_stars method_28_code 7 [(0, 14, 17, 51), (0, 14, 21, 37)] 6 := ⟨gw 104 (by decide +kernel) (by decide +kernel), gw 1340 (by decide +kernel) (by decide +kernel), by decide +kernel, by decide, gw 1339 (by decide +kernel) (by decide +kernel)⟩
theorem lkL_stars : Cond.methodLink RL 108 yX11_stars ∈ GW := gw 1341 (by decide +kernel) (by decide +kernel)
theorem hc_stars {l : Launch} {g : GT} {ext : List CD} {sk : Nat → Nat} {ao : Nat} {cL : ClassId} {x1 x2 x3 x4 : Int32} {M : Mem} {f : Nat → Int64} {post : Int32 → Mem → (Nat → Int64) → Prop} (h : P_R_stars (fun r M1 => post 0 M1 (vp_updL f 0 (cvI r))) (fun E M1 => (E = IOB ∧ post 1 M1 f) ∨ (E = NSE ∧ post 2 M1 f)) x1 x2 x3 x4 M) : HI l g (layC ++ ext) sk ao cL yL_stars method_28_code 7 9 2 [(0, 14, 17, 51), (0, 14, 21, 37)] [.ref (ad g 0), .int x1, .int x2, .int x3, .int x4, .ref ao] M f post := by
  refine hi_of (by decide) (Nat.le_of_ble_eq_true rfl) ?_
  rintro X A Z rfl C hte RT
  refine n_aload C.1 (tk tL_stars 0 rfl) rfl ?_
  refine n_iconst C.1 0 (tk tL_stars 1 rfl) rfl ?_
  refine n_aload_n C.1 (tk tL_stars 2 rfl) rfl ?_
  refine n_iload_n C.1 (tk tL_stars 3 rfl) rfl ?_
  refine n_iload_n C.1 (tk tL_stars 4 rfl) rfl ?_
  refine n_iload_n C.1 (tk tL_stars 5 rfl) rfl ?_
  refine n_iload C.1 (tk tL_stars 6 rfl) rfl ?_
  refine h_callI0 C (suf := [(ao, ouE cL f)]) [.int x1, .int x2, .int x3, .int x4] meL_stars lkL_stars (ct_R_stars h) (by decide) lc0 rfl rfl rfl (Nat.le_of_ble_eq_true rfl) (tk tL_stars 7 rfl) ⟨Nat.le_of_ble_eq_true rfl, Nat.le_of_ble_eq_true rfl⟩ ?_ ?_
  · rintro E M1 (⟨rfl, hp⟩ | ⟨rfl, hp⟩) H locs ls q9 ce hP hD hS hl hq hv hc
    all_goals rw [List.nil_append] at hP hD
    · refine h_catch C hte (l1 := []) (l2 := [(0, 14, 21, 37)]) (x := (0, 14, 17, 51)) rfl (by nofun) (by decide) (by decide) cl_IOB ca_IOB hP hD hS hl hq hv hc ?_
      refine n_astore C.1 (tk tL_stars 11 rfl) (by decide) rfl ?_
      refine n_iconst C.1 1 (tk tL_stars 12 rfl) rfl ?_
      exact RT _ M1 f _ _ (tk tL_stars 13 rfl) hp
    · refine h_catch C hte (l1 := [(0, 14, 17, 51)]) (l2 := []) (x := (0, 14, 21, 37)) rfl (by simp only [List.mem_cons, List.not_mem_nil, or_false, forall_eq_or_imp, forall_eq]; exact ⟨by decide, _, cl_IOB, C.2.2 _ in_NSE _ in_IOB (by decide)⟩) (by decide) (by decide) cl_NSE ca_NSE hP hD hS hl hq hv hc ?_
      refine n_astore C.1 (tk tL_stars 14 rfl) (by decide) rfl ?_
      refine n_iconst C.1 2 (tk tL_stars 15 rfl) rfl ?_
      exact RT _ M1 f _ _ (tk tL_stars 16 rfl) hp
  · intro r M1 hp
    refine n_i2l C.1 (tk tL_stars 8 rfl) ?_
    refine h_last C (ws := wl g (layC ++ ext) M1) (tk tL_stars 9 rfl) ?_
    refine n_goto C.1 25 (tk tL_stars 10 rfl) (by decide) ?_
    refine n_iconst C.1 0 (tk tL_stars 17 rfl) rfl ?_
    exact RT _ M1 _ _ _ (tk tL_stars 18 rfl) hp
def yL_drift : MethodName := ⟨RL, "drift", "(LRainbowPlate;IIZ[J)I"⟩
def TL_drift : List (Nat × Instr × Nat) := [(0, .aload 4, 2), (2, .iconst 0, 1), (3, .aload_n 0, 1), (4, .iload_n 1, 1), (5, .iload_n 2, 1), (6, .iload_n 3, 1), (7, .invokevirtual 111, 3), (10, .i2l, 1), (11, .lastore, 1), (12, .goto 7, 3), (15, .astore 5, 2), (17, .iconst 1, 1), (18, .ireturn, 1), (19, .iconst 0, 1), (20, .ireturn, 1)]
theorem tL_drift : tabOK method_29_code TL_drift = true := by decide +kernel
theorem meL_drift : MeV yX11_drift cX11_drift 6 (some .int) 3 := ⟨⟨gw 105 (by decide +kernel) (by decide +kernel), gw 1360 (by decide +kernel) (by decide +kernel), by decide +kernel, by decide⟩, gw 1358 (by decide +kernel) (by decide +kernel), gw 1359 (by decide +kernel) (by decide +kernel)⟩
theorem mh_drift : MeH yL_drift method_29_code 6 [(0, 12, 15, 51)] 5 := ⟨gw 104 (by decide +kernel) (by decide +kernel), gw 1356 (by decide +kernel) (by decide +kernel), by decide +kernel, by decide, gw 1355 (by decide +kernel) (by decide +kernel)⟩
theorem lkL_drift : Cond.methodLink RL 111 yX11_drift ∈ GW := gw 1357 (by decide +kernel) (by decide +kernel)
theorem hc_drift {l : Launch} {g : GT} {ext : List CD} {sk : Nat → Nat} {ao : Nat} {cL : ClassId} {x1 x2 x3 : Int32} {M : Mem} {f : Nat → Int64} {post : Int32 → Mem → (Nat → Int64) → Prop} (h : P_R_drift (fun r M1 => post 0 M1 (vp_updL f 0 (cvI r))) (fun E M1 => (E = IOB ∧ post 1 M1 f)) x1 x2 x3 M) : HI l g (layC ++ ext) sk ao cL yL_drift method_29_code 6 9 1 [(0, 12, 15, 51)] [.ref (ad g 0), .int x1, .int x2, .int x3, .ref ao] M f post := by
  refine hi_of (by decide) (Nat.le_of_ble_eq_true rfl) ?_
  rintro X A Z rfl C hte RT
  refine n_aload C.1 (tk tL_drift 0 rfl) rfl ?_
  refine n_iconst C.1 0 (tk tL_drift 1 rfl) rfl ?_
  refine n_aload_n C.1 (tk tL_drift 2 rfl) rfl ?_
  refine n_iload_n C.1 (tk tL_drift 3 rfl) rfl ?_
  refine n_iload_n C.1 (tk tL_drift 4 rfl) rfl ?_
  refine n_iload_n C.1 (tk tL_drift 5 rfl) rfl ?_
  refine h_callI0 C (suf := [(ao, ouE cL f)]) [.int x1, .int x2, .int x3] meL_drift lkL_drift (ct_R_drift h) (by decide) lc0 rfl rfl rfl (Nat.le_of_ble_eq_true rfl) (tk tL_drift 6 rfl) ⟨Nat.le_of_ble_eq_true rfl, Nat.le_of_ble_eq_true rfl⟩ ?_ ?_
  · rintro E M1 ⟨rfl, hp⟩ H locs ls q9 ce hP hD hS hl hq hv hc
    all_goals rw [List.nil_append] at hP hD
    refine h_catch C hte (l1 := []) (l2 := []) (x := (0, 12, 15, 51)) rfl (by nofun) (by decide) (by decide) cl_IOB ca_IOB hP hD hS hl hq hv hc ?_
    refine n_astore C.1 (tk tL_drift 10 rfl) (by decide) rfl ?_
    refine n_iconst C.1 1 (tk tL_drift 11 rfl) rfl ?_
    exact RT _ M1 f _ _ (tk tL_drift 12 rfl) hp
  · intro r M1 hp
    refine n_i2l C.1 (tk tL_drift 7 rfl) ?_
    refine h_last C (ws := wl g (layC ++ ext) M1) (tk tL_drift 8 rfl) ?_
    refine n_goto C.1 19 (tk tL_drift 9 rfl) (by decide) ?_
    refine n_iconst C.1 0 (tk tL_drift 13 rfl) rfl ?_
    exact RT _ M1 _ _ _ (tk tL_drift 14 rfl) hp
def yL_maker : MethodName := ⟨RL, "maker", "(LRainbowPlate;[J)I"⟩
def TL_maker : List (Nat × Instr × Nat) := [(0, .aload_n 1, 1), (1, .iconst 0, 1), (2, .aload_n 0, 1), (3, .invokevirtual 114, 3), (6, .i2l, 1), (7, .lastore, 1), (8, .goto 6, 3), (11, .astore_n 2, 1), (12, .iconst 1, 1), (13, .ireturn, 1), (14, .iconst 0, 1), (15, .ireturn, 1)]
theorem tL_maker : tabOK method_30_code TL_maker = true := by decide +kernel
theorem meL_maker : MeV yX11_maker cX11_maker 3 (some .int) 0 := ⟨⟨gw 105 (by decide +kernel) (by decide +kernel), gw 1371 (by decide +kernel) (by decide +kernel), by decide +kernel, by decide⟩, gw 1369 (by decide +kernel) (by decide +kernel), gw 1370 (by decide +kernel) (by decide +kernel)⟩
theorem mh_maker : MeH yL_maker method_30_code 3 [(0, 8, 11, 23)] 2 := ⟨gw 104 (by decide +kernel) (by decide +kernel), gw 1367 (by decide +kernel) (by decide +kernel), by decide +kernel, by decide, gw 1366 (by decide +kernel) (by decide +kernel)⟩
theorem lkL_maker : Cond.methodLink RL 114 yX11_maker ∈ GW := gw 1368 (by decide +kernel) (by decide +kernel)
theorem hc_maker {l : Launch} {g : GT} {ext : List CD} {sk : Nat → Nat} {ao : Nat} {cL : ClassId} {M : Mem} {f : Nat → Int64} {post : Int32 → Mem → (Nat → Int64) → Prop} (h : P_R_maker (fun r M1 => post 0 M1 (vp_updL f 0 (cvI r))) (fun E M1 => (E = UOE ∧ post 1 M1 f)) M) : HI l g (layC ++ ext) sk ao cL yL_maker method_30_code 3 8 1 [(0, 8, 11, 23)] [.ref (ad g 0), .ref ao] M f post := by
  refine hi_of (by decide) (Nat.le_of_ble_eq_true rfl) ?_
  rintro X A Z rfl C hte RT
  refine n_aload_n C.1 (tk tL_maker 0 rfl) rfl ?_
  refine n_iconst C.1 0 (tk tL_maker 1 rfl) rfl ?_
  refine n_aload_n C.1 (tk tL_maker 2 rfl) rfl ?_
  refine h_callI0 C (suf := [(ao, ouE cL f)]) [] meL_maker lkL_maker (ct_R_maker h) (by decide) lc0 rfl rfl rfl (Nat.le_of_ble_eq_true rfl) (tk tL_maker 3 rfl) ⟨Nat.le_of_ble_eq_true rfl, Nat.le_of_ble_eq_true rfl⟩ ?_ ?_
  · rintro E M1 ⟨rfl, hp⟩ H locs ls q9 ce hP hD hS hl hq hv hc
    all_goals rw [List.nil_append] at hP hD
    refine h_catch C hte (l1 := []) (l2 := []) (x := (0, 8, 11, 23)) rfl (by nofun) (by decide) (by decide) cl_UOE ca_UOE hP hD hS hl hq hv hc ?_
    refine n_astore_n C.1 (tk tL_maker 7 rfl) (by decide) rfl ?_
    refine n_iconst C.1 1 (tk tL_maker 8 rfl) rfl ?_
    exact RT _ M1 f _ _ (tk tL_maker 9 rfl) hp
  · intro r M1 hp
    refine n_i2l C.1 (tk tL_maker 4 rfl) ?_
    refine h_last C (ws := wl g (layC ++ ext) M1) (tk tL_maker 5 rfl) ?_
    refine n_goto C.1 14 (tk tL_maker 6 rfl) (by decide) ?_
    refine n_iconst C.1 0 (tk tL_maker 10 rfl) rfl ?_
    exact RT _ M1 _ _ _ (tk tL_maker 11 rfl) hp
def yL_recipe : MethodName := ⟨RL, "recipe", "(LRainbowPlate;IIII)I"⟩
def TL_recipe : List (Nat × Instr × Nat) := [(0, .aload_n 0, 1), (1, .iload_n 1, 1), (2, .iload_n 2, 1), (3, .iload_n 3, 1), (4, .iload 4, 2), (6, .invokevirtual 118, 3), (9, .goto 11, 3), (12, .astore 5, 2), (14, .iconst 1, 1), (15, .ireturn, 1), (16, .astore 5, 2), (18, .iconst 2, 1), (19, .ireturn, 1), (20, .iconst 0, 1), (21, .ireturn, 1)]
theorem tL_recipe : tabOK method_31_code TL_recipe = true := by decide +kernel
theorem meL_recipe : MeV yX11_recipe cX11_recipe 5 none 4 := ⟨⟨gw 105 (by decide +kernel) (by decide +kernel), gw 1378 (by decide +kernel) (by decide +kernel), by decide +kernel, by decide⟩, gw 1376 (by decide +kernel) (by decide +kernel), gw 1377 (by decide +kernel) (by decide +kernel)⟩
theorem mh_recipe : MeH yL_recipe method_31_code 6 [(0, 9, 12, 51), (0, 9, 16, 13)] 5 := ⟨gw 104 (by decide +kernel) (by decide +kernel), gw 1374 (by decide +kernel) (by decide +kernel), by decide +kernel, by decide, gw 1373 (by decide +kernel) (by decide +kernel)⟩
theorem lkL_recipe : Cond.methodLink RL 118 yX11_recipe ∈ GW := gw 1375 (by decide +kernel) (by decide +kernel)
theorem hc_recipe {l : Launch} {g : GT} {ext : List CD} {sk : Nat → Nat} {ao : Nat} {cL : ClassId} {x1 x2 x3 x4 : Int32} {M : Mem} {f : Nat → Int64} {post : Int32 → Mem → (Nat → Int64) → Prop} (h : P_R_recipe (fun M1 => post 0 M1 f) (fun E M1 => (E = IOB ∧ post 1 M1 f) ∨ (E = IAE ∧ post 2 M1 f)) x1 x2 x3 x4 M) : HI l g (layC ++ ext) sk ao cL yL_recipe method_31_code 6 9 3 [(0, 9, 12, 51), (0, 9, 16, 13)] [.ref (ad g 0), .int x1, .int x2, .int x3, .int x4] M f post := by
  refine hi_of (by decide) (Nat.le_of_ble_eq_true rfl) ?_
  rintro X A Z rfl C hte RT
  refine n_aload_n C.1 (tk tL_recipe 0 rfl) rfl ?_
  refine n_iload_n C.1 (tk tL_recipe 1 rfl) rfl ?_
  refine n_iload_n C.1 (tk tL_recipe 2 rfl) rfl ?_
  refine n_iload_n C.1 (tk tL_recipe 3 rfl) rfl ?_
  refine n_iload C.1 (tk tL_recipe 4 rfl) rfl ?_
  refine h_callV0 C (suf := [(ao, ouE cL f)]) [.int x1, .int x2, .int x3, .int x4] meL_recipe lkL_recipe (ct_R_recipe h) (by decide) lc0 rfl rfl rfl (Nat.le_of_ble_eq_true rfl) (tk tL_recipe 5 rfl) ⟨Nat.le_of_ble_eq_true rfl, Nat.le_of_ble_eq_true rfl⟩ ?_ ?_
  · rintro E M1 (⟨rfl, hp⟩ | ⟨rfl, hp⟩) H locs ls q9 ce hP hD hS hl hq hv hc
    all_goals rw [List.nil_append] at hP hD
    · refine h_catch C hte (l1 := []) (l2 := [(0, 9, 16, 13)]) (x := (0, 9, 12, 51)) rfl (by nofun) (by decide) (by decide) cl_IOB ca_IOB hP hD hS hl hq hv hc ?_
      refine n_astore C.1 (tk tL_recipe 7 rfl) (by decide) rfl ?_
      refine n_iconst C.1 1 (tk tL_recipe 8 rfl) rfl ?_
      exact RT _ M1 f _ _ (tk tL_recipe 9 rfl) hp
    · refine h_catch C hte (l1 := [(0, 9, 12, 51)]) (l2 := []) (x := (0, 9, 16, 13)) rfl (by simp only [List.mem_cons, List.not_mem_nil, or_false, forall_eq_or_imp, forall_eq]; exact ⟨by decide, _, cl_IOB, C.2.2 _ in_IAE _ in_IOB (by decide)⟩) (by decide) (by decide) cl_IAE ca_IAE hP hD hS hl hq hv hc ?_
      refine n_astore C.1 (tk tL_recipe 10 rfl) (by decide) rfl ?_
      refine n_iconst C.1 2 (tk tL_recipe 11 rfl) rfl ?_
      exact RT _ M1 f _ _ (tk tL_recipe 12 rfl) hp
  · intro M1 hp
    refine n_goto C.1 20 (tk tL_recipe 6 rfl) (by decide) ?_
    refine n_iconst C.1 0 (tk tL_recipe 13 rfl) rfl ?_
    exact RT _ M1 f _ _ (tk tL_recipe 14 rfl) hp
def yL_chance : MethodName := ⟨RL, "chance", "(LRainbowPlate;IIIZ[J)I"⟩
def TL_chance : List (Nat × Instr × Nat) := [(0, .aload 5, 2), (2, .iconst 0, 1), (3, .aload_n 0, 1), (4, .iload_n 1, 1), (5, .iload_n 2, 1), (6, .iload_n 3, 1), (7, .iload 4, 2), (9, .invokevirtual 121, 3), (12, .i2l, 1), (13, .lastore, 1), (14, .goto 7, 3), (17, .astore 6, 2), (19, .iconst 1, 1), (20, .ireturn, 1), (21, .iconst 0, 1), (22, .ireturn, 1)]
theorem tL_chance : tabOK method_32_code TL_chance = true := by decide +kernel
theorem meL_chance : MeV yX11_chance cX11_chance 5 (some .int) 4 := ⟨⟨gw 105 (by decide +kernel) (by decide +kernel), gw 1389 (by decide +kernel) (by decide +kernel), by decide +kernel, by decide⟩, gw 1387 (by decide +kernel) (by decide +kernel), gw 1388 (by decide +kernel) (by decide +kernel)⟩
theorem mh_chance : MeH yL_chance method_32_code 7 [(0, 14, 17, 51)] 6 := ⟨gw 104 (by decide +kernel) (by decide +kernel), gw 1385 (by decide +kernel) (by decide +kernel), by decide +kernel, by decide, gw 1384 (by decide +kernel) (by decide +kernel)⟩
theorem lkL_chance : Cond.methodLink RL 121 yX11_chance ∈ GW := gw 1386 (by decide +kernel) (by decide +kernel)
theorem hc_chance {l : Launch} {g : GT} {ext : List CD} {sk : Nat → Nat} {ao : Nat} {cL : ClassId} {x1 x2 x3 x4 : Int32} {M : Mem} {f : Nat → Int64} {post : Int32 → Mem → (Nat → Int64) → Prop} (h : P_R_chance (fun r M1 => post 0 M1 (vp_updL f 0 (cvI r))) (fun E M1 => (E = IOB ∧ post 1 M1 f)) x1 x2 x3 x4 M) : HI l g (layC ++ ext) sk ao cL yL_chance method_32_code 7 9 2 [(0, 14, 17, 51)] [.ref (ad g 0), .int x1, .int x2, .int x3, .int x4, .ref ao] M f post := by
  refine hi_of (by decide) (Nat.le_of_ble_eq_true rfl) ?_
  rintro X A Z rfl C hte RT
  refine n_aload C.1 (tk tL_chance 0 rfl) rfl ?_
  refine n_iconst C.1 0 (tk tL_chance 1 rfl) rfl ?_
  refine n_aload_n C.1 (tk tL_chance 2 rfl) rfl ?_
  refine n_iload_n C.1 (tk tL_chance 3 rfl) rfl ?_
  refine n_iload_n C.1 (tk tL_chance 4 rfl) rfl ?_
  refine n_iload_n C.1 (tk tL_chance 5 rfl) rfl ?_
  refine n_iload C.1 (tk tL_chance 6 rfl) rfl ?_
  refine h_callI0 C (suf := [(ao, ouE cL f)]) [.int x1, .int x2, .int x3, .int x4] meL_chance lkL_chance (ct_R_chance h) (by decide) lc0 rfl rfl rfl (Nat.le_of_ble_eq_true rfl) (tk tL_chance 7 rfl) ⟨Nat.le_of_ble_eq_true rfl, Nat.le_of_ble_eq_true rfl⟩ ?_ ?_
  · rintro E M1 ⟨rfl, hp⟩ H locs ls q9 ce hP hD hS hl hq hv hc
    all_goals rw [List.nil_append] at hP hD
    refine h_catch C hte (l1 := []) (l2 := []) (x := (0, 14, 17, 51)) rfl (by nofun) (by decide) (by decide) cl_IOB ca_IOB hP hD hS hl hq hv hc ?_
    refine n_astore C.1 (tk tL_chance 11 rfl) (by decide) rfl ?_
    refine n_iconst C.1 1 (tk tL_chance 12 rfl) rfl ?_
    exact RT _ M1 f _ _ (tk tL_chance 13 rfl) hp
  · intro r M1 hp
    refine n_i2l C.1 (tk tL_chance 8 rfl) ?_
    refine h_last C (ws := wl g (layC ++ ext) M1) (tk tL_chance 9 rfl) ?_
    refine n_goto C.1 21 (tk tL_chance 10 rfl) (by decide) ?_
    refine n_iconst C.1 0 (tk tL_chance 14 rfl) rfl ?_
    exact RT _ M1 _ _ _ (tk tL_chance 15 rfl) hp
def yL_likely : MethodName := ⟨RL, "likely", "(LRainbowPlate;II[J)I"⟩
def TL_likely : List (Nat × Instr × Nat) := [(0, .aload_n 3, 1), (1, .iconst 0, 1), (2, .aload_n 0, 1), (3, .iload_n 1, 1), (4, .iload_n 2, 1), (5, .invokevirtual 124, 3), (8, .i2l, 1), (9, .lastore, 1), (10, .goto 7, 3), (13, .astore 4, 2), (15, .iconst 1, 1), (16, .ireturn, 1), (17, .iconst 0, 1), (18, .ireturn, 1)]
theorem tL_likely : tabOK method_33_code TL_likely = true := by decide +kernel
theorem meL_likely : MeV yX11_likely cX11_likely 3 (some .int) 2 := ⟨⟨gw 105 (by decide +kernel) (by decide +kernel), gw 1416 (by decide +kernel) (by decide +kernel), by decide +kernel, by decide⟩, gw 1414 (by decide +kernel) (by decide +kernel), gw 1415 (by decide +kernel) (by decide +kernel)⟩
theorem mh_likely : MeH yL_likely method_33_code 5 [(0, 10, 13, 51)] 4 := ⟨gw 104 (by decide +kernel) (by decide +kernel), gw 1412 (by decide +kernel) (by decide +kernel), by decide +kernel, by decide, gw 1411 (by decide +kernel) (by decide +kernel)⟩
theorem lkL_likely : Cond.methodLink RL 124 yX11_likely ∈ GW := gw 1413 (by decide +kernel) (by decide +kernel)
theorem hc_likely {l : Launch} {g : GT} {ext : List CD} {sk : Nat → Nat} {ao : Nat} {cL : ClassId} {x1 x2 : Int32} {M : Mem} {f : Nat → Int64} {post : Int32 → Mem → (Nat → Int64) → Prop} (h : P_R_likely (fun r M1 => post 0 M1 (vp_updL f 0 (cvI r))) (fun E M1 => (E = IOB ∧ post 1 M1 f)) x1 x2 M) : HI l g (layC ++ ext) sk ao cL yL_likely method_33_code 5 9 1 [(0, 10, 13, 51)] [.ref (ad g 0), .int x1, .int x2, .ref ao] M f post := by
  refine hi_of (by decide) (Nat.le_of_ble_eq_true rfl) ?_
  rintro X A Z rfl C hte RT
  refine n_aload_n C.1 (tk tL_likely 0 rfl) rfl ?_
  refine n_iconst C.1 0 (tk tL_likely 1 rfl) rfl ?_
  refine n_aload_n C.1 (tk tL_likely 2 rfl) rfl ?_
  refine n_iload_n C.1 (tk tL_likely 3 rfl) rfl ?_
  refine n_iload_n C.1 (tk tL_likely 4 rfl) rfl ?_
  refine h_callI0 C (suf := [(ao, ouE cL f)]) [.int x1, .int x2] meL_likely lkL_likely (ct_R_likely h) (by decide) lc0 rfl rfl rfl (Nat.le_of_ble_eq_true rfl) (tk tL_likely 5 rfl) ⟨Nat.le_of_ble_eq_true rfl, Nat.le_of_ble_eq_true rfl⟩ ?_ ?_
  · rintro E M1 ⟨rfl, hp⟩ H locs ls q9 ce hP hD hS hl hq hv hc
    all_goals rw [List.nil_append] at hP hD
    refine h_catch C hte (l1 := []) (l2 := []) (x := (0, 10, 13, 51)) rfl (by nofun) (by decide) (by decide) cl_IOB ca_IOB hP hD hS hl hq hv hc ?_
    refine n_astore C.1 (tk tL_likely 9 rfl) (by decide) rfl ?_
    refine n_iconst C.1 1 (tk tL_likely 10 rfl) rfl ?_
    exact RT _ M1 f _ _ (tk tL_likely 11 rfl) hp
  · intro r M1 hp
    refine n_i2l C.1 (tk tL_likely 6 rfl) ?_
    refine h_last C (ws := wl g (layC ++ ext) M1) (tk tL_likely 7 rfl) ?_
    refine n_goto C.1 17 (tk tL_likely 8 rfl) (by decide) ?_
    refine n_iconst C.1 0 (tk tL_likely 12 rfl) rfl ?_
    exact RT _ M1 _ _ _ (tk tL_likely 13 rfl) hp
def yL_forged : MethodName := ⟨RL, "forged", "(LRainbowPlate;III[J)I"⟩
def TL_forged : List (Nat × Instr × Nat) := [(0, .aload 4, 2), (2, .iconst 0, 1), (3, .aload_n 0, 1), (4, .iload_n 1, 1), (5, .iload_n 2, 1), (6, .iload_n 3, 1), (7, .invokevirtual 127, 3), (10, .ifCond .eq 7, 3), (13, .lconst 1, 1), (14, .goto 4, 3), (17, .lconst 0, 1), (18, .lastore, 1), (19, .goto 7, 3), (22, .astore 5, 2), (24, .iconst 1, 1), (25, .ireturn, 1), (26, .iconst 0, 1), (27, .ireturn, 1)]
theorem tL_forged : tabOK method_34_code TL_forged = true := by decide +kernel
theorem meL_forged : MeV yX11_forged cX11_forged 4 (some .boolean) 3 := ⟨⟨gw 105 (by decide +kernel) (by decide +kernel), gw 1428 (by decide +kernel) (by decide +kernel), by decide +kernel, by decide⟩, gw 1426 (by decide +kernel) (by decide +kernel), gw 1427 (by decide +kernel) (by decide +kernel)⟩
theorem mh_forged : MeH yL_forged method_34_code 6 [(0, 19, 22, 51)] 5 := ⟨gw 104 (by decide +kernel) (by decide +kernel), gw 1424 (by decide +kernel) (by decide +kernel), by decide +kernel, by decide, gw 1423 (by decide +kernel) (by decide +kernel)⟩
theorem lkL_forged : Cond.methodLink RL 127 yX11_forged ∈ GW := gw 1425 (by decide +kernel) (by decide +kernel)
theorem hc_forged {l : Launch} {g : GT} {ext : List CD} {sk : Nat → Nat} {ao : Nat} {cL : ClassId} {x1 x2 x3 : Int32} {M : Mem} {f : Nat → Int64} {post : Int32 → Mem → (Nat → Int64) → Prop} (h : P_R_forged (fun r M1 => post 0 M1 (vp_updL f 0 (cvZ r))) (fun E M1 => (E = IOB ∧ post 1 M1 f)) x1 x2 x3 M) : HI l g (layC ++ ext) sk ao cL yL_forged method_34_code 6 9 2 [(0, 19, 22, 51)] [.ref (ad g 0), .int x1, .int x2, .int x3, .ref ao] M f post := by
  refine hi_of (by decide) (Nat.le_of_ble_eq_true rfl) ?_
  rintro X A Z rfl C hte RT
  refine n_aload C.1 (tk tL_forged 0 rfl) rfl ?_
  refine n_iconst C.1 0 (tk tL_forged 1 rfl) rfl ?_
  refine n_aload_n C.1 (tk tL_forged 2 rfl) rfl ?_
  refine n_iload_n C.1 (tk tL_forged 3 rfl) rfl ?_
  refine n_iload_n C.1 (tk tL_forged 4 rfl) rfl ?_
  refine n_iload_n C.1 (tk tL_forged 5 rfl) rfl ?_
  refine h_callI0 C (suf := [(ao, ouE cL f)]) [.int x1, .int x2, .int x3] meL_forged lkL_forged (ct_R_forged h) (by decide) lc0 rfl rfl rfl (Nat.le_of_ble_eq_true rfl) (tk tL_forged 6 rfl) ⟨Nat.le_of_ble_eq_true rfl, Nat.le_of_ble_eq_true rfl⟩ ?_ ?_
  · rintro E M1 ⟨rfl, hp⟩ H locs ls q9 ce hP hD hS hl hq hv hc
    all_goals rw [List.nil_append] at hP hD
    refine h_catch C hte (l1 := []) (l2 := []) (x := (0, 19, 22, 51)) rfl (by nofun) (by decide) (by decide) cl_IOB ca_IOB hP hD hS hl hq hv hc ?_
    refine n_astore C.1 (tk tL_forged 13 rfl) (by decide) rfl ?_
    refine n_iconst C.1 1 (tk tL_forged 14 rfl) rfl ?_
    exact RT _ M1 f _ _ (tk tL_forged 15 rfl) hp
  · intro r M1 hp
    refine n_if_eq C.1 17 (tk tL_forged 7 rfl) (by decide) (fun e => ?_) (fun e => ?_)
    · have hp : post 0 M1 (vp_updL f 0 0) := by have h9 := hp; unfold cvZ at h9; rw [if_pos e] at h9; exact h9
      refine n_lconst C.1 0 (tk tL_forged 10 rfl) rfl ?_
      refine h_last C (ws := wl g (layC ++ ext) M1) (tk tL_forged 11 rfl) ?_
      refine n_goto C.1 26 (tk tL_forged 12 rfl) (by decide) ?_
      refine n_iconst C.1 0 (tk tL_forged 16 rfl) rfl ?_
      exact RT _ M1 _ _ _ (tk tL_forged 17 rfl) hp
    · have hp : post 0 M1 (vp_updL f 0 1) := by have h9 := hp; unfold cvZ at h9; rw [if_neg e] at h9; exact h9
      refine n_lconst C.1 1 (tk tL_forged 8 rfl) rfl ?_
      refine n_goto C.1 18 (tk tL_forged 9 rfl) (by decide) ?_
      refine h_last C (ws := wl g (layC ++ ext) M1) (tk tL_forged 11 rfl) ?_
      refine n_goto C.1 26 (tk tL_forged 12 rfl) (by decide) ?_
      refine n_iconst C.1 0 (tk tL_forged 16 rfl) rfl ?_
      exact RT _ M1 _ _ _ (tk tL_forged 17 rfl) hp
def yL_sums : MethodName := ⟨RL, "sums", "(LRainbowPlate;III[J)I"⟩
def TL_sums : List (Nat × Instr × Nat) := [(0, .aload 4, 2), (2, .iconst 0, 1), (3, .aload_n 0, 1), (4, .iload_n 1, 1), (5, .iload_n 2, 1), (6, .iload_n 3, 1), (7, .invokevirtual 130, 3), (10, .i2l, 1), (11, .lastore, 1), (12, .goto 11, 3), (15, .astore 5, 2), (17, .iconst 1, 1), (18, .ireturn, 1), (19, .astore 5, 2), (21, .iconst 2, 1), (22, .ireturn, 1), (23, .iconst 0, 1), (24, .ireturn, 1)]
theorem tL_sums : tabOK method_35_code TL_sums = true := by decide +kernel
theorem meL_sums : MeV yX11_sums cX11_sums 4 (some .int) 3 := ⟨⟨gw 105 (by decide +kernel) (by decide +kernel), gw 1439 (by decide +kernel) (by decide +kernel), by decide +kernel, by decide⟩, gw 1437 (by decide +kernel) (by decide +kernel), gw 1438 (by decide +kernel) (by decide +kernel)⟩
theorem mh_sums : MeH yL_sums method_35_code 6 [(0, 12, 15, 51), (0, 12, 19, 13)] 5 := ⟨gw 104 (by decide +kernel) (by decide +kernel), gw 1435 (by decide +kernel) (by decide +kernel), by decide +kernel, by decide, gw 1434 (by decide +kernel) (by decide +kernel)⟩
theorem lkL_sums : Cond.methodLink RL 130 yX11_sums ∈ GW := gw 1436 (by decide +kernel) (by decide +kernel)
theorem hc_sums {l : Launch} {g : GT} {ext : List CD} {sk : Nat → Nat} {ao : Nat} {cL : ClassId} {x1 x2 x3 : Int32} {M : Mem} {f : Nat → Int64} {post : Int32 → Mem → (Nat → Int64) → Prop} (h : P_R_sums (fun r M1 => post 0 M1 (vp_updL f 0 (cvI r))) (fun E M1 => (E = IOB ∧ post 1 M1 f) ∨ (E = IAE ∧ post 2 M1 f)) x1 x2 x3 M) : HI l g (layC ++ ext) sk ao cL yL_sums method_35_code 6 9 2 [(0, 12, 15, 51), (0, 12, 19, 13)] [.ref (ad g 0), .int x1, .int x2, .int x3, .ref ao] M f post := by
  refine hi_of (by decide) (Nat.le_of_ble_eq_true rfl) ?_
  rintro X A Z rfl C hte RT
  refine n_aload C.1 (tk tL_sums 0 rfl) rfl ?_
  refine n_iconst C.1 0 (tk tL_sums 1 rfl) rfl ?_
  refine n_aload_n C.1 (tk tL_sums 2 rfl) rfl ?_
  refine n_iload_n C.1 (tk tL_sums 3 rfl) rfl ?_
  refine n_iload_n C.1 (tk tL_sums 4 rfl) rfl ?_
  refine n_iload_n C.1 (tk tL_sums 5 rfl) rfl ?_
  refine h_callI0 C (suf := [(ao, ouE cL f)]) [.int x1, .int x2, .int x3] meL_sums lkL_sums (ct_R_sums h) (by decide) lc0 rfl rfl rfl (Nat.le_of_ble_eq_true rfl) (tk tL_sums 6 rfl) ⟨Nat.le_of_ble_eq_true rfl, Nat.le_of_ble_eq_true rfl⟩ ?_ ?_
  · rintro E M1 (⟨rfl, hp⟩ | ⟨rfl, hp⟩) H locs ls q9 ce hP hD hS hl hq hv hc
    all_goals rw [List.nil_append] at hP hD
    · refine h_catch C hte (l1 := []) (l2 := [(0, 12, 19, 13)]) (x := (0, 12, 15, 51)) rfl (by nofun) (by decide) (by decide) cl_IOB ca_IOB hP hD hS hl hq hv hc ?_
      refine n_astore C.1 (tk tL_sums 10 rfl) (by decide) rfl ?_
      refine n_iconst C.1 1 (tk tL_sums 11 rfl) rfl ?_
      exact RT _ M1 f _ _ (tk tL_sums 12 rfl) hp
    · refine h_catch C hte (l1 := [(0, 12, 15, 51)]) (l2 := []) (x := (0, 12, 19, 13)) rfl (by simp only [List.mem_cons, List.not_mem_nil, or_false, forall_eq_or_imp, forall_eq]; exact ⟨by decide, _, cl_IOB, C.2.2 _ in_IAE _ in_IOB (by decide)⟩) (by decide) (by decide) cl_IAE ca_IAE hP hD hS hl hq hv hc ?_
      refine n_astore C.1 (tk tL_sums 13 rfl) (by decide) rfl ?_
      refine n_iconst C.1 2 (tk tL_sums 14 rfl) rfl ?_
      exact RT _ M1 f _ _ (tk tL_sums 15 rfl) hp
  · intro r M1 hp
    refine n_i2l C.1 (tk tL_sums 7 rfl) ?_
    refine h_last C (ws := wl g (layC ++ ext) M1) (tk tL_sums 8 rfl) ?_
    refine n_goto C.1 23 (tk tL_sums 9 rfl) (by decide) ?_
    refine n_iconst C.1 0 (tk tL_sums 16 rfl) rfl ?_
    exact RT _ M1 _ _ _ (tk tL_sums 17 rfl) hp
def yL_grain : MethodName := ⟨RL, "grain", "(LRainbowPlate;II[J)I"⟩
def TL_grain : List (Nat × Instr × Nat) := [(0, .aload_n 3, 1), (1, .iconst 0, 1), (2, .aload_n 0, 1), (3, .iload_n 1, 1), (4, .iload_n 2, 1), (5, .invokevirtual 133, 3), (8, .i2l, 1), (9, .lastore, 1), (10, .goto 7, 3), (13, .astore 4, 2), (15, .iconst 1, 1), (16, .ireturn, 1), (17, .iconst 0, 1), (18, .ireturn, 1)]
theorem tL_grain : tabOK method_36_code TL_grain = true := by decide +kernel
theorem meL_grain : MeV yX11_grain cX11_grain 6 (some .int) 2 := ⟨⟨gw 105 (by decide +kernel) (by decide +kernel), gw 1453 (by decide +kernel) (by decide +kernel), by decide +kernel, by decide⟩, gw 1451 (by decide +kernel) (by decide +kernel), gw 1452 (by decide +kernel) (by decide +kernel)⟩
theorem mh_grain : MeH yL_grain method_36_code 5 [(0, 10, 13, 51)] 4 := ⟨gw 104 (by decide +kernel) (by decide +kernel), gw 1449 (by decide +kernel) (by decide +kernel), by decide +kernel, by decide, gw 1448 (by decide +kernel) (by decide +kernel)⟩
theorem lkL_grain : Cond.methodLink RL 133 yX11_grain ∈ GW := gw 1450 (by decide +kernel) (by decide +kernel)
theorem hc_grain {l : Launch} {g : GT} {ext : List CD} {sk : Nat → Nat} {ao : Nat} {cL : ClassId} {x1 x2 : Int32} {M : Mem} {f : Nat → Int64} {post : Int32 → Mem → (Nat → Int64) → Prop} (h : P_R_grain (fun r M1 => post 0 M1 (vp_updL f 0 (cvI r))) (fun E M1 => (E = IOB ∧ post 1 M1 f)) x1 x2 M) : HI l g (layC ++ ext) sk ao cL yL_grain method_36_code 5 9 1 [(0, 10, 13, 51)] [.ref (ad g 0), .int x1, .int x2, .ref ao] M f post := by
  refine hi_of (by decide) (Nat.le_of_ble_eq_true rfl) ?_
  rintro X A Z rfl C hte RT
  refine n_aload_n C.1 (tk tL_grain 0 rfl) rfl ?_
  refine n_iconst C.1 0 (tk tL_grain 1 rfl) rfl ?_
  refine n_aload_n C.1 (tk tL_grain 2 rfl) rfl ?_
  refine n_iload_n C.1 (tk tL_grain 3 rfl) rfl ?_
  refine n_iload_n C.1 (tk tL_grain 4 rfl) rfl ?_
  refine h_callI0 C (suf := [(ao, ouE cL f)]) [.int x1, .int x2] meL_grain lkL_grain (ct_R_grain h) (by decide) lc0 rfl rfl rfl (Nat.le_of_ble_eq_true rfl) (tk tL_grain 5 rfl) ⟨Nat.le_of_ble_eq_true rfl, Nat.le_of_ble_eq_true rfl⟩ ?_ ?_
  · rintro E M1 ⟨rfl, hp⟩ H locs ls q9 ce hP hD hS hl hq hv hc
    all_goals rw [List.nil_append] at hP hD
    refine h_catch C hte (l1 := []) (l2 := []) (x := (0, 10, 13, 51)) rfl (by nofun) (by decide) (by decide) cl_IOB ca_IOB hP hD hS hl hq hv hc ?_
    refine n_astore C.1 (tk tL_grain 9 rfl) (by decide) rfl ?_
    refine n_iconst C.1 1 (tk tL_grain 10 rfl) rfl ?_
    exact RT _ M1 f _ _ (tk tL_grain 11 rfl) hp
  · intro r M1 hp
    refine n_i2l C.1 (tk tL_grain 6 rfl) ?_
    refine h_last C (ws := wl g (layC ++ ext) M1) (tk tL_grain 7 rfl) ?_
    refine n_goto C.1 17 (tk tL_grain 8 rfl) (by decide) ?_
    refine n_iconst C.1 0 (tk tL_grain 12 rfl) rfl ?_
    exact RT _ M1 _ _ _ (tk tL_grain 13 rfl) hp
def yL_near : MethodName := ⟨RL, "near", "(LRainbowPlate;III[J)I"⟩
def TL_near : List (Nat × Instr × Nat) := [(0, .aload 4, 2), (2, .iconst 0, 1), (3, .aload_n 0, 1), (4, .iload_n 1, 1), (5, .iload_n 2, 1), (6, .iload_n 3, 1), (7, .invokevirtual 136, 3), (10, .i2l, 1), (11, .lastore, 1), (12, .goto 11, 3), (15, .astore 5, 2), (17, .iconst 1, 1), (18, .ireturn, 1), (19, .astore 5, 2), (21, .iconst 2, 1), (22, .ireturn, 1), (23, .iconst 0, 1), (24, .ireturn, 1)]
theorem tL_near : tabOK method_37_code TL_near = true := by decide +kernel
theorem meL_near : MeV yX11_near cX11_near 7 (some .int) 3 := ⟨⟨gw 105 (by decide +kernel) (by decide +kernel), gw 1460 (by decide +kernel) (by decide +kernel), by decide +kernel, by decide⟩, gw 1458 (by decide +kernel) (by decide +kernel), gw 1459 (by decide +kernel) (by decide +kernel)⟩
theorem mh_near : MeH yL_near method_37_code 6 [(0, 12, 15, 51), (0, 12, 19, 13)] 5 := ⟨gw 104 (by decide +kernel) (by decide +kernel), gw 1456 (by decide +kernel) (by decide +kernel), by decide +kernel, by decide, gw 1455 (by decide +kernel) (by decide +kernel)⟩
theorem lkL_near : Cond.methodLink RL 136 yX11_near ∈ GW := gw 1457 (by decide +kernel) (by decide +kernel)
theorem hc_near {l : Launch} {g : GT} {ext : List CD} {sk : Nat → Nat} {ao : Nat} {cL : ClassId} {x1 x2 x3 : Int32} {M : Mem} {f : Nat → Int64} {post : Int32 → Mem → (Nat → Int64) → Prop} (h : P_R_near (fun r M1 => post 0 M1 (vp_updL f 0 (cvI r))) (fun E M1 => (E = IOB ∧ post 1 M1 f) ∨ (E = IAE ∧ post 2 M1 f)) x1 x2 x3 M) : HI l g (layC ++ ext) sk ao cL yL_near method_37_code 6 9 3 [(0, 12, 15, 51), (0, 12, 19, 13)] [.ref (ad g 0), .int x1, .int x2, .int x3, .ref ao] M f post := by
  refine hi_of (by decide) (Nat.le_of_ble_eq_true rfl) ?_
  rintro X A Z rfl C hte RT
  refine n_aload C.1 (tk tL_near 0 rfl) rfl ?_
  refine n_iconst C.1 0 (tk tL_near 1 rfl) rfl ?_
  refine n_aload_n C.1 (tk tL_near 2 rfl) rfl ?_
  refine n_iload_n C.1 (tk tL_near 3 rfl) rfl ?_
  refine n_iload_n C.1 (tk tL_near 4 rfl) rfl ?_
  refine n_iload_n C.1 (tk tL_near 5 rfl) rfl ?_
  refine h_callI0 C (suf := [(ao, ouE cL f)]) [.int x1, .int x2, .int x3] meL_near lkL_near (ct_R_near h) (by decide) lc0 rfl rfl rfl (Nat.le_of_ble_eq_true rfl) (tk tL_near 6 rfl) ⟨Nat.le_of_ble_eq_true rfl, Nat.le_of_ble_eq_true rfl⟩ ?_ ?_
  · rintro E M1 (⟨rfl, hp⟩ | ⟨rfl, hp⟩) H locs ls q9 ce hP hD hS hl hq hv hc
    all_goals rw [List.nil_append] at hP hD
    · refine h_catch C hte (l1 := []) (l2 := [(0, 12, 19, 13)]) (x := (0, 12, 15, 51)) rfl (by nofun) (by decide) (by decide) cl_IOB ca_IOB hP hD hS hl hq hv hc ?_
      refine n_astore C.1 (tk tL_near 10 rfl) (by decide) rfl ?_
      refine n_iconst C.1 1 (tk tL_near 11 rfl) rfl ?_
      exact RT _ M1 f _ _ (tk tL_near 12 rfl) hp
    · refine h_catch C hte (l1 := [(0, 12, 15, 51)]) (l2 := []) (x := (0, 12, 19, 13)) rfl (by simp only [List.mem_cons, List.not_mem_nil, or_false, forall_eq_or_imp, forall_eq]; exact ⟨by decide, _, cl_IOB, C.2.2 _ in_IAE _ in_IOB (by decide)⟩) (by decide) (by decide) cl_IAE ca_IAE hP hD hS hl hq hv hc ?_
      refine n_astore C.1 (tk tL_near 13 rfl) (by decide) rfl ?_
      refine n_iconst C.1 2 (tk tL_near 14 rfl) rfl ?_
      exact RT _ M1 f _ _ (tk tL_near 15 rfl) hp
  · intro r M1 hp
    refine n_i2l C.1 (tk tL_near 7 rfl) ?_
    refine h_last C (ws := wl g (layC ++ ext) M1) (tk tL_near 8 rfl) ?_
    refine n_goto C.1 23 (tk tL_near 9 rfl) (by decide) ?_
    refine n_iconst C.1 0 (tk tL_near 16 rfl) rfl ?_
    exact RT _ M1 _ _ _ (tk tL_near 17 rfl) hp
def yL_holds : MethodName := ⟨RL, "holds", "(LRainbowPlate;II[J)I"⟩
def TL_holds : List (Nat × Instr × Nat) := [(0, .aload_n 3, 1), (1, .iconst 0, 1), (2, .aload_n 0, 1), (3, .iload_n 1, 1), (4, .iload_n 2, 1), (5, .invokevirtual 142, 3), (8, .ifCond .eq 7, 3), (11, .lconst 1, 1), (12, .goto 4, 3), (15, .lconst 0, 1), (16, .lastore, 1), (17, .goto 7, 3), (20, .astore 4, 2), (22, .iconst 1, 1), (23, .ireturn, 1), (24, .iconst 0, 1), (25, .ireturn, 1)]
theorem tL_holds : tabOK method_39_code TL_holds = true := by decide +kernel
theorem meL_holds : MeV yX11_holds cX11_holds 4 (some .boolean) 2 := ⟨⟨gw 105 (by decide +kernel) (by decide +kernel), gw 1637 (by decide +kernel) (by decide +kernel), by decide +kernel, by decide⟩, gw 1635 (by decide +kernel) (by decide +kernel), gw 1636 (by decide +kernel) (by decide +kernel)⟩
theorem mh_holds : MeH yL_holds method_39_code 5 [(0, 17, 20, 51)] 4 := ⟨gw 104 (by decide +kernel) (by decide +kernel), gw 1633 (by decide +kernel) (by decide +kernel), by decide +kernel, by decide, gw 1632 (by decide +kernel) (by decide +kernel)⟩
theorem lkL_holds : Cond.methodLink RL 142 yX11_holds ∈ GW := gw 1634 (by decide +kernel) (by decide +kernel)
theorem hc_holds {l : Launch} {g : GT} {ext : List CD} {sk : Nat → Nat} {ao : Nat} {cL : ClassId} {x1 x2 : Int32} {M : Mem} {f : Nat → Int64} {post : Int32 → Mem → (Nat → Int64) → Prop} (h : P_R_holds ext (fun r M1 => post 0 M1 (vp_updL f 0 (cvZ r))) (fun E M1 => (E = IOB ∧ post 1 M1 f)) x1 x2 M) : HI l g (layC ++ ext) sk ao cL yL_holds method_39_code 5 9 2 [(0, 17, 20, 51)] [.ref (ad g 0), .int x1, .int x2, .ref ao] M f post := by
  refine hi_of (by decide) (Nat.le_of_ble_eq_true rfl) ?_
  rintro X A Z rfl C hte RT
  refine n_aload_n C.1 (tk tL_holds 0 rfl) rfl ?_
  refine n_iconst C.1 0 (tk tL_holds 1 rfl) rfl ?_
  refine n_aload_n C.1 (tk tL_holds 2 rfl) rfl ?_
  refine n_iload_n C.1 (tk tL_holds 3 rfl) rfl ?_
  refine n_iload_n C.1 (tk tL_holds 4 rfl) rfl ?_
  refine h_callI0 C (suf := [(ao, ouE cL f)]) [.int x1, .int x2] meL_holds lkL_holds (ct_R_holds h) (by decide) lc0 rfl rfl rfl (Nat.le_of_ble_eq_true rfl) (tk tL_holds 5 rfl) ⟨Nat.le_of_ble_eq_true rfl, Nat.le_of_ble_eq_true rfl⟩ ?_ ?_
  · rintro E M1 ⟨rfl, hp⟩ H locs ls q9 ce hP hD hS hl hq hv hc
    all_goals rw [List.nil_append] at hP hD
    refine h_catch C hte (l1 := []) (l2 := []) (x := (0, 17, 20, 51)) rfl (by nofun) (by decide) (by decide) cl_IOB ca_IOB hP hD hS hl hq hv hc ?_
    refine n_astore C.1 (tk tL_holds 12 rfl) (by decide) rfl ?_
    refine n_iconst C.1 1 (tk tL_holds 13 rfl) rfl ?_
    exact RT _ M1 f _ _ (tk tL_holds 14 rfl) hp
  · intro r M1 hp
    refine n_if_eq C.1 15 (tk tL_holds 6 rfl) (by decide) (fun e => ?_) (fun e => ?_)
    · have hp : post 0 M1 (vp_updL f 0 0) := by have h9 := hp; unfold cvZ at h9; rw [if_pos e] at h9; exact h9
      refine n_lconst C.1 0 (tk tL_holds 9 rfl) rfl ?_
      refine h_last C (ws := wl g (layC ++ ext) M1) (tk tL_holds 10 rfl) ?_
      refine n_goto C.1 24 (tk tL_holds 11 rfl) (by decide) ?_
      refine n_iconst C.1 0 (tk tL_holds 15 rfl) rfl ?_
      exact RT _ M1 _ _ _ (tk tL_holds 16 rfl) hp
    · have hp : post 0 M1 (vp_updL f 0 1) := by have h9 := hp; unfold cvZ at h9; rw [if_neg e] at h9; exact h9
      refine n_lconst C.1 1 (tk tL_holds 7 rfl) rfl ?_
      refine n_goto C.1 16 (tk tL_holds 8 rfl) (by decide) ?_
      refine h_last C (ws := wl g (layC ++ ext) M1) (tk tL_holds 10 rfl) ?_
      refine n_goto C.1 24 (tk tL_holds 11 rfl) (by decide) ?_
      refine n_iconst C.1 0 (tk tL_holds 15 rfl) rfl ?_
      exact RT _ M1 _ _ _ (tk tL_holds 16 rfl) hp
