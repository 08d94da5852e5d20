/-! ONE TURN OF THE LAW'S LOOP, AND THE LOOP (printed by turn994.py) -/
theorem and63 (x : Int32) : ∃ k, k < 64 ∧ x &&& 63 = nI k := by
  refine ⟨(x &&& 63).toBitVec.toNat, ?_, ?_⟩
  · rw [Int32.toBitVec_and, BitVec.toNat_and]
    exact Nat.lt_of_le_of_lt Nat.and_le_right (by decide)
  · apply Int32.toBitVec_inj.mp
    show _ = BitVec.ofNat 32 _
    rw [BitVec.ofNat_toNat, BitVec.setWidth_eq]
theorem mem48 : ∀ k, k < 48 → k ∈ [0, 1, 2, 3, 4, 5, 6, 7, 8, 9, 10, 11, 12, 13, 14, 15, 16, 17, 18, 19, 20, 21, 22, 23, 24, 25, 26, 27, 28, 29, 30, 31, 32, 33, 34, 35, 36, 37, 38, 39, 40, 41, 42, 43, 44, 45, 46, 47] := by decide
theorem d_tsw : decode code 40 = .ok (.tableswitch 3525 0 47 #[208, 281, 306, 378, 462, 598, 611, 636, 672, 796, 809, 865, 977, 990, 1062, 1142, 1246, 1366, 1434, 1447, 1527, 1614, 1701, 1769, 1849, 1929, 2009, 2117, 2213, 2321, 2413, 2481, 2549, 2641, 2737, 2781, 2853, 2961, 3029, 3116, 3196, 3264, 3344, 3388, 3401, 3476, 3487, 3500], 208) := by decide +kernel
theorem n_alike {X : FX} {D : va_G} {ws : va_W} {A : Nat → Prop} {nL kc ks : Nat} {Z : State → Prop} {pc : Nat} {lv lv2 : List (Nat × Value)} {st : List Value} (h : ∀ i, lv2.lookup i = lv.lookup i) (K : AtN X D ws A nL kc ks Z pc lv2 st) : AtN X D ws A nL kc ks Z pc lv st := by
  intro H locs ls hP hD hS hl
  obtain ⟨l, h1, h2⟩ := hl
  exact K H locs ls hP hD hS ⟨l, h1, fun i v hi => h2 i v (by rw [← h i]; exact hi)⟩
theorem look4 {x y : Value} {r : List (Nat × Value)} (i : Nat) : ((4, x) :: r).lookup i = ((4, x) :: (4, y) :: r).lookup i := by
  by_cases e : i = 4
  · subst e; rfl
  · simp only [List.lookup_cons, beq_eq_false_iff_ne.mpr e]
theorem tu_k {X : FX} {g : GT} {cL : ClassId} {A : Nat → Prop} {sk : Nat → Nat} {sb L : Nat} {sx : Nat → Int32} {kc ks : Nat} {Z : State → Prop} {n : Nat} {aM aC : Nat → Nat} {ext : List CD} {Mc Mm : Mem} {ao : Nat} {f : Nat → Int64} (C : CxL X g cL A sk sb L sx) (hL : L ≤ 3072) (hn : n + 5 < L) (hk : kc + 80 ≤ 601024 ∧ ks + 480 ≤ 7293034) (hJ : JI ext Mc Mm) (K : NX X g cL A sb kc ks Z n aM aC ext ao) (hlen : nC ext + 1 < 1000000) : ∀ k ∈ [0, 1, 2, 3, 4, 5, 6, 7, 8, 9, 10, 11, 12, 13, 14, 15, 16, 17, 18, 19, 20, 21, 22, 23, 24, 25, 26, 27, 28, 29, 30, 31, 32, 33, 34, 35, 36, 37, 38, 39, 40, 41, 42, 43, 44, 45, 46, 47], AtN X (g.1, g.2.1) (WS g aM aC ext Mc Mm ao cL f) A 7 kc ks Z 40 (lvB n ao (aM 0) (aC 0) sb) [.int (nI k)] :=
  List.forall_mem_cons.mpr ⟨n_tswI C.1.1 208 248 d_tsw (by decide +kernel) (by decide) (case_feed C hL hn hk hJ K), 
  List.forall_mem_cons.mpr ⟨n_tswI C.1.1 281 321 d_tsw (by decide +kernel) (by decide) (case_end C hL hn hk hJ K), 
  List.forall_mem_cons.mpr ⟨n_tswI C.1.1 306 346 d_tsw (by decide +kernel) (by decide) (case_screw C hL hn hk hJ K), 
  List.forall_mem_cons.mpr ⟨n_tswI C.1.1 378 418 d_tsw (by decide +kernel) (by decide) (case_truly C hL hn hk hJ K), 
  List.forall_mem_cons.mpr ⟨n_tswI C.1.1 462 502 d_tsw (by decide +kernel) (by decide) (case_gauge C hL hn hk hJ K), 
  List.forall_mem_cons.mpr ⟨n_tswI C.1.1 598 638 d_tsw (by decide +kernel) (by decide) (case_fits C hL hn hk hJ K), 
  List.forall_mem_cons.mpr ⟨n_tswI C.1.1 611 651 d_tsw (by decide +kernel) (by decide) (case_fit C hL hn hk hJ K), 
  List.forall_mem_cons.mpr ⟨n_tswI C.1.1 636 676 d_tsw (by decide +kernel) (by decide) (case_error C hL hn hk hJ K), 
  List.forall_mem_cons.mpr ⟨n_tswI C.1.1 672 712 d_tsw (by decide +kernel) (by decide) (case_known C hL hn hk hJ K), 
  List.forall_mem_cons.mpr ⟨n_tswI C.1.1 796 836 d_tsw (by decide +kernel) (by decide) (case_laws C hL hn hk hJ K), 
  List.forall_mem_cons.mpr ⟨n_tswI C.1.1 809 849 d_tsw (by decide +kernel) (by decide) (case_law C hL hn hk hJ K), 
  List.forall_mem_cons.mpr ⟨n_tswI C.1.1 865 905 d_tsw (by decide +kernel) (by decide) (case_span C hL hn hk hJ K), 
  List.forall_mem_cons.mpr ⟨n_tswI C.1.1 977 1017 d_tsw (by decide +kernel) (by decide) (case_slipped C hL hn hk hJ K), 
  List.forall_mem_cons.mpr ⟨n_tswI C.1.1 990 1030 d_tsw (by decide +kernel) (by decide) (case_element C hL hn hk hJ K), 
  List.forall_mem_cons.mpr ⟨n_tswI C.1.1 1062 1102 d_tsw (by decide +kernel) (by decide) (case_line C hL hn hk hJ K), 
  List.forall_mem_cons.mpr ⟨n_tswI C.1.1 1142 1182 d_tsw (by decide +kernel) (by decide) (case_plate C hL hn hk hJ K), 
  List.forall_mem_cons.mpr ⟨n_tswI C.1.1 1246 1286 d_tsw (by decide +kernel) (by decide) (case_reading C hL hn hk hJ K), 
  List.forall_mem_cons.mpr ⟨n_tswI C.1.1 1366 1406 d_tsw (by decide +kernel) (by decide) (case_look C hL hn hk hJ K), 
  List.forall_mem_cons.mpr ⟨n_tswI C.1.1 1434 1474 d_tsw (by decide +kernel) (by decide) (case_away C hL hn hk hJ K), 
  List.forall_mem_cons.mpr ⟨n_tswI C.1.1 1447 1487 d_tsw (by decide +kernel) (by decide) (case_lies C hL hn hk hJ K), 
  List.forall_mem_cons.mpr ⟨n_tswI C.1.1 1527 1567 d_tsw (by decide +kernel) (by decide) (case_must C hL hn hk hJ K), 
  List.forall_mem_cons.mpr ⟨n_tswI C.1.1 1614 1654 d_tsw (by decide +kernel) (by decide) (case_explains C hL hn hk hJ K), 
  List.forall_mem_cons.mpr ⟨n_tswI C.1.1 1701 1741 d_tsw (by decide +kernel) (by decide) (case_sets C hL hn hk hJ K), 
  List.forall_mem_cons.mpr ⟨n_tswI C.1.1 1769 1809 d_tsw (by decide +kernel) (by decide) (case_left C hL hn hk hJ K), 
  List.forall_mem_cons.mpr ⟨n_tswI C.1.1 1849 1889 d_tsw (by decide +kernel) (by decide) (case_missed C hL hn hk hJ K), 
  List.forall_mem_cons.mpr ⟨n_tswI C.1.1 1929 1969 d_tsw (by decide +kernel) (by decide) (case_speeds C hL hn hk hJ K), 
  List.forall_mem_cons.mpr ⟨n_tswI C.1.1 2009 2049 d_tsw (by decide +kernel) (by decide) (case_amount C hL hn hk hJ K), 
  List.forall_mem_cons.mpr ⟨n_tswI C.1.1 2117 2157 d_tsw (by decide +kernel) (by decide) (case_wide C hL hn hk hJ K), 
  List.forall_mem_cons.mpr ⟨n_tswI C.1.1 2213 2253 d_tsw (by decide +kernel) (by decide) (case_rows C hL hn hk hJ K), 
  List.forall_mem_cons.mpr ⟨n_tswI C.1.1 2321 2361 d_tsw (by decide +kernel) (by decide) (case_next C hL hn hk hJ K), 
  List.forall_mem_cons.mpr ⟨n_tswI C.1.1 2413 2453 d_tsw (by decide +kernel) (by decide) (case_misprint C hL hn hk hJ K), 
  List.forall_mem_cons.mpr ⟨n_tswI C.1.1 2481 2521 d_tsw (by decide +kernel) (by decide) (case_alike C hL hn hk hJ K), 
  List.forall_mem_cons.mpr ⟨n_tswI C.1.1 2549 2589 d_tsw (by decide +kernel) (by decide) (case_stars C hL hn hk hJ K), 
  List.forall_mem_cons.mpr ⟨n_tswI C.1.1 2641 2681 d_tsw (by decide +kernel) (by decide) (case_drift C hL hn hk hJ K), 
  List.forall_mem_cons.mpr ⟨n_tswI C.1.1 2737 2777 d_tsw (by decide +kernel) (by decide) (case_maker C hL hn hk hJ K), 
  List.forall_mem_cons.mpr ⟨n_tswI C.1.1 2781 2821 d_tsw (by decide +kernel) (by decide) (case_recipe C hL hn hk hJ K), 
  List.forall_mem_cons.mpr ⟨n_tswI C.1.1 2853 2893 d_tsw (by decide +kernel) (by decide) (case_chance C hL hn hk hJ K), 
  List.forall_mem_cons.mpr ⟨n_tswI C.1.1 2961 3001 d_tsw (by decide +kernel) (by decide) (case_likely C hL hn hk hJ K), 
  List.forall_mem_cons.mpr ⟨n_tswI C.1.1 3029 3069 d_tsw (by decide +kernel) (by decide) (case_forged C hL hn hk hJ K), 
  List.forall_mem_cons.mpr ⟨n_tswI C.1.1 3116 3156 d_tsw (by decide +kernel) (by decide) (case_sums C hL hn hk hJ K), 
  List.forall_mem_cons.mpr ⟨n_tswI C.1.1 3196 3236 d_tsw (by decide +kernel) (by decide) (case_grain C hL hn hk hJ K), 
  List.forall_mem_cons.mpr ⟨n_tswI C.1.1 3264 3304 d_tsw (by decide +kernel) (by decide) (case_near C hL hn hk hJ K), 
  List.forall_mem_cons.mpr ⟨n_tswI C.1.1 3344 3384 d_tsw (by decide +kernel) (by decide) (case_claim C hL hn hk hJ K hlen), 
  List.forall_mem_cons.mpr ⟨n_tswI C.1.1 3388 3428 d_tsw (by decide +kernel) (by decide) (case_fault C hL hn hk hJ K), 
  List.forall_mem_cons.mpr ⟨n_tswI C.1.1 3401 3441 d_tsw (by decide +kernel) (by decide) (case_holds C hL hn hk hJ K), 
  List.forall_mem_cons.mpr ⟨n_tswI C.1.1 3476 3516 d_tsw (by decide +kernel) (by decide) (case_image C hL hn hk hJ K), 
  List.forall_mem_cons.mpr ⟨n_tswI C.1.1 3487 3527 d_tsw (by decide +kernel) (by decide) (case_back C hL hn hk hJ K), 
  List.forall_mem_cons.mpr ⟨n_tswI C.1.1 3500 3540 d_tsw (by decide +kernel) (by decide) (case_count C hL hn hk hJ K), 
  fun _ h => (by cases h)⟩⟩⟩⟩⟩⟩⟩⟩⟩⟩⟩⟩⟩⟩⟩⟩⟩⟩⟩⟩⟩⟩⟩⟩⟩⟩⟩⟩⟩⟩⟩⟩⟩⟩⟩⟩⟩⟩⟩⟩⟩⟩⟩⟩⟩⟩⟩⟩
theorem tu_turn {X : FX} {g : GT} {cL : ClassId} {A : Nat → Prop} {sk : Nat → Nat} {sb L : Nat} {sx : Nat → Int32} {kc ks : Nat} {Z : State → Prop} {n : Nat} {aM aC : Nat → Nat} {ext : List CD} {Mc Mm : Mem} {ao : Nat} {f : Nat → Int64} (C : CxL X g cL A sk sb L sx) (hL : L ≤ 3072) (hn : n + 5 < L) (hk : kc + 80 ≤ 601024 ∧ ks + 480 ≤ 7293034) (hJ : JI ext Mc Mm) (K : NX X g cL A sb kc ks Z n aM aC ext ao) (hlen : nC ext + 1 < 1000000) : AtN X (g.1, g.2.1) (WS g aM aC ext Mc Mm ao cL f) A 7 kc ks Z 33 (lvB n ao (aM 0) (aC 0) sb) [] := by
  have h : segB code 33 [(.aload_n 0, 1), (.iload 4, 2), (.iaload, 1), (.bipush 63, 2), (.iand, 1)] = true := by decide +kernel
  obtain ⟨dx, h⟩ := seg1 h
  refine n_aload_n C.1.1 dx rfl ?_
  obtain ⟨dx, h⟩ := seg1 h
  refine n_iload C.1.1 dx rfl ?_
  obtain ⟨dx, h⟩ := seg1 h
  refine l_sld C (n := n) (by omega) hL dx ?_
  obtain ⟨dx, h⟩ := seg1 h
  refine n_bipush C.1.1 63 dx (by decide) ?_
  obtain ⟨dx, h⟩ := seg1 h
  refine n_iand C.1.1 dx ?_
  obtain ⟨k, hk64, ek⟩ := and63 (sx n)
  rw [ek]
  by_cases c : k < 48
  · exact tu_k C hL hn hk hJ K hlen k (mem48 k c)
  · refine n_tswO C.1.1 3565 d_tsw (Or.inr (by rw [nI_toI (by omega)]; omega)) (by decide) ?_
    exact n_to rfl (by omega) (by omega) (K aC ext Mc Mm f rfl hJ (Nat.le_add_right _ _))
theorem head_lt {L m : Nat} (hL : L ≤ 3072) (hm : m ≤ 4000) : nI L - 6 < nI m ↔ L < m + 6 := by
  have h6 : (6 : Int32).toInt = 6 := by decide
  have e : (nI L - 6).toInt = (L : Int) - 6 := by
    rw [subI (by rw [nI_toI (by omega), h6]; omega) (by rw [nI_toI (by omega), h6]; omega), nI_toI (by omega), h6]
  rw [ltI, e, nI_toI (by omega)]
  omega
theorem tu_loop {X : FX} {g : GT} {cL : ClassId} {A : Nat → Prop} {sk : Nat → Nat} {sb L : Nat} {sx : Nat → Int32} {Z : State → Prop} {aM : Nat → Nat} {ao ac K0 S0 : Nat} (C : CxL X g cL A sk sb L sx) (hL : L ≤ 3072) (hK : K0 + 41120 ≤ 601024) (hS : S0 + 246720 ≤ 7293034)
    (hZ : ∀ (ws : va_W) (kc ks : Nat) (lv : List (Nat × Value)), kc ≤ 601024 → ks ≤ 7293034 → AtN X (g.1, g.2.1) ws A 7 kc ks Z 3571 lv []) :
    ∀ (d i : Nat), i + d = 513 → ∀ (aC : Nat → Nat) (ext : List CD) (Mc Mm : Mem) (f : Nat → Int64), aC 0 = ac → JI ext Mc Mm → nC ext ≤ 89 + 2 * i → AtN X (g.1, g.2.1) (WS g aM aC ext Mc Mm ao cL f) A 7 (K0 + 80 * i) (S0 + 480 * i) Z 23 (lvB (6 * i) ao (aM 0) ac sb) [] := by
  intro d
  induction d with
  | zero =>
    intro i hi aC ext Mc Mm f ea hJ hn
    have h : segB code 23 [(.iload 4, 2), (.aload_n 0, 1), (.arraylength, 1), (.bipush 6, 2), (.isub, 1), (.if_icmp .gt 3541, 3)] = true := by decide +kernel
    obtain ⟨dx, h⟩ := seg1 h
    refine n_iload C.1.1 dx rfl ?_
    obtain ⟨dx, h⟩ := seg1 h
    refine n_aload_n C.1.1 dx rfl ?_
    obtain ⟨dx, h⟩ := seg1 h
    refine l_slen C dx ?_
    obtain ⟨dx, h⟩ := seg1 h
    refine n_bipush C.1.1 6 dx (by decide) ?_
    obtain ⟨dx, h⟩ := seg1 h
    refine n_isub C.1.1 dx ?_
    obtain ⟨dx, h⟩ := seg1 h
    refine n_icmp_gt C.1.1 3571 dx (by decide) (fun c => hZ _ _ _ _ (by omega) (by omega)) (fun c => ?_)
    rw [head_lt hL (by omega)] at c
    omega
  | succ d ih =>
    intro i hi aC ext Mc Mm f ea hJ hn
    have h : segB code 23 [(.iload 4, 2), (.aload_n 0, 1), (.arraylength, 1), (.bipush 6, 2), (.isub, 1), (.if_icmp .gt 3541, 3)] = true := by decide +kernel
    obtain ⟨dx, h⟩ := seg1 h
    refine n_iload C.1.1 dx rfl ?_
    obtain ⟨dx, h⟩ := seg1 h
    refine n_aload_n C.1.1 dx rfl ?_
    obtain ⟨dx, h⟩ := seg1 h
    refine l_slen C dx ?_
    obtain ⟨dx, h⟩ := seg1 h
    refine n_bipush C.1.1 6 dx (by decide) ?_
    obtain ⟨dx, h⟩ := seg1 h
    refine n_isub C.1.1 dx ?_
    obtain ⟨dx, h⟩ := seg1 h
    refine n_icmp_gt C.1.1 3571 dx (by decide) (fun c => hZ _ _ _ _ (by omega) (by omega)) (fun c => ?_)
    rw [head_lt hL (by omega)] at c
    subst ea
    refine tu_turn (n := 6 * i) C hL (by omega) ⟨by omega, by omega⟩ hJ (fun aC2 ext2 Mc2 Mm2 f2 ea2 hJ2 hn2 => ?_) (by omega)
    have h : segB code 3565 [(.iinc 4 6, 3), (.goto (-3545), 3)] = true := by decide +kernel
    obtain ⟨dx, h⟩ := seg1 h
    refine n_iinc C.1.1 6 dx rfl (by decide) (by decide) rfl ?_
    obtain ⟨dx, h⟩ := seg1 h
    refine n_goto C.1.1 23 dx (by decide) ?_
    have e6 : nI (6 * i) + 6 = nI (6 * (i + 1)) := nI_add (6 * i) 6
    rw [e6]
    refine n_alike (lv2 := lvB (6 * (i + 1)) ao (aM 0) (aC 0) sb) look4 ?_
    exact n_to rfl (by omega) (by omega) (ih (i + 1) (by omega) aC2 ext2 Mc2 Mm2 f2 ea2 hJ2 (by omega))
