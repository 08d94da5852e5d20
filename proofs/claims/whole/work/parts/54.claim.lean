/-! THE REFERENCE: claim -/
/-- a claim's steps in the world's row -/
def ClW (w : Nat → Int32) (i : Nat) (c : List Nat) : Prop := w (359 + 801 * i) = nI c.length ∧ ∀ k x, c[k]? = some x → w (360 + 801 * i + 2 * k) = trS x ∧ w (361 + 801 * i + 2 * k) = trV x
def ClQ (M M' : Mem) : Prop := M' 2 = M 2 ∧ M' 10 = M 10 ∧ M' 0 3 = M 0 3 ∧ M' 0 19 = 0
/-- the text on the tape, read -/
def txP (t : Nat → Int32) (L : Nat) : PRs := pWhole (kdT t L) (nxT t L) (rn (isSp t) L 0)
theorem txP_len {t : Nat → Int32} {L : Nat} (hL4 : L ≤ 400) (h : (txP t L).1 = true) : (txP t L).2.2.length ≤ 400 := by
  have hts := kdT_ts (t := t) hL4
  have hbL : rn (isSp t) L 0 ≤ L := rn_le (by omega)
  have hga := good_any hts 6 _ hbL
  unfold txP pWhole at *
  split at h
  · rename_i e1
    rw [if_pos e1]
    have hga := hga.1 e1
    split at h
    · rename_i e2
      rw [if_pos e2]; omega
    · cases h
  · cases h
theorem txP_bd {t : Nat → Int32} {L : Nat} (hL4 : L ≤ 400) : (txP t L).2.1 ≤ L := by
  have hts := kdT_ts (t := t) hL4
  have hbL : rn (isSp t) L 0 ≤ L := rn_le (by omega)
  have hga := good_any hts 6 _ hbL
  unfold txP pWhole
  split
  · rename_i e1
    have hga := hga.1 e1
    split
    · exact hga.2.1
    · exact hga.2.1
  · rename_i e1
    have hga := hga.2 (by simpa using e1)
    exact hga.2
theorem s_M_claim {post : Int32 → Mem → Prop} {M : Mem} {L : Nat} (hI : WInv (M 1)) (hL : M 0 19 = nI L) (hL4 : L ≤ 400)
    (hbad : (txP (M 10) L).1 = false → ∀ M', ClQ M M' → (∀ k, k < 5165 → M' 1 k = M 1 k) → M' 0 24 = nI (txP (M 10) L).2.1 → M' 0 0 = 1 → post 0 M')
    (hfull : (txP (M 10) L).1 = true → nn (M 1 10) = 6 → ∀ M', ClQ M M' → (∀ k, k < 5165 → M' 1 k = M 1 k) → M' 0 24 = -1 → M' 0 0 = 2 → post 0 M')
    (hnew : (txP (M 10) L).1 = true → nn (M 1 10) < 6 → ∀ M', ClQ M M' → (∀ k, k < 5165 → k ≠ 10 → (k < 359 + 801 * nn (M 1 10) ∨ 359 + 801 * nn (M 1 10) + 801 ≤ k) → M' 1 k = M 1 k) → M' 1 10 = M 1 10 + 1 → ClW (M' 1) (nn (M 1 10)) (txP (M 10) L).2.2 → M' 0 24 = -1 → M' 0 0 = 0 → post (M 1 10) M') : P_M_claim post M := by
  obtain ⟨hn, hn6⟩ := hI.nc
  intro M1 m1 M2 m2 M3 m3 M4 m4 M5 m5 M6 m6
  have hc : ∀ c, c ≠ 0 → M6 c = M c := fun c hc => by rw [m6, ms_off _ _ _ hc, m5, ms_off _ _ _ hc, m4, ms_off _ _ _ hc, m3, ms_off _ _ _ hc, m2, ms_off _ _ _ hc, m1, ms_off _ _ _ hc]
  have h21 : M6 0 21 = nI L := by rw [m6, ms_ne _ _ _ (by omega), m5, ms_ne _ _ _ (by omega), m4, ms_ne _ _ _ (by omega), m3, ms_ne _ _ _ (by omega), m2, ms_at, m1, ms_ne _ _ _ (by omega)]; exact hL
  have h20 : M6 0 20 = nI 0 := by rw [m6, ms_ne _ _ _ (by omega), m5, ms_ne _ _ _ (by omega), m4, ms_at]; rfl
  have h19 : M6 0 19 = 0 := by rw [m6, ms_ne _ _ _ (by omega), m5, ms_ne _ _ _ (by omega), m4, ms_ne _ _ _ (by omega), m3, ms_at]
  have h26 : M6 0 26 = nI 0 := by rw [m6, ms_ne _ _ _ (by omega), m5, ms_at]; rfl
  have h23 : M6 0 23 = nI 0 := by rw [m6, ms_at]; rfl
  have h00 : M6 0 0 = 0 := by rw [m6, ms_ne _ _ _ (by omega), m5, ms_ne _ _ _ (by omega), m4, ms_ne _ _ _ (by omega), m3, ms_ne _ _ _ (by omega), m2, ms_ne _ _ _ (by omega), m1, ms_at]
  have h03 : M6 0 3 = M 0 3 := by rw [m6, ms_ne _ _ _ (by omega), m5, ms_ne _ _ _ (by omega), m4, ms_ne _ _ _ (by omega), m3, ms_ne _ _ _ (by omega), m2, ms_ne _ _ _ (by omega), m1, ms_ne _ _ _ (by omega)]
  clear m1 m2 m3 m4 m5 m6
  have ht : M6 10 = M 10 := hc 10 (by omega)
  have e10 : (10 : Int32).toNatClampNeg = 10 := rfl
  have clq : ∀ M', FrP M6 M' → ∀ v, ClQ M (ms M' 0 24 v) := by
    intro M' f v
    refine ⟨?_, ?_, ?_, ?_⟩
    · rw [ms_off _ _ _ (by omega), f.1 2 (by omega) (by omega)]; exact hc 2 (by omega)
    · rw [ms_off _ _ _ (by omega), f.1 10 (by omega) (by omega)]; exact ht
    · rw [ms_ne _ _ _ (by omega), f.2.2 3 (by omega) (by omega) (by omega) (by omega)]; exact h03
    · rw [ms_ne _ _ _ (by omega), f.2.2 19 (by omega) (by omega) (by omega) (by omega)]; exact h19
  have thq : ∀ {A : Mem} {k : Int32}, ClQ M A → ClQ M (thr A k) := by
    intro A k ⟨q1, q2, q3, q4⟩
    exact ⟨by rw [thr_off _ _ (by omega)]; exact q1, by rw [thr_off _ _ (by omega)]; exact q2, by rw [thr, ms_ne _ _ _ (by omega)]; exact q3, by rw [thr, ms_ne _ _ _ (by omega)]; exact q4⟩
  refine rd_whole hL4 h21 ht ⟨FrP.refl _, h20, by omega, h23, h26, fun k x hx => by simp at hx⟩ (fun hok M7 q7 a7 => ?_) (fun hok M7 f7 => ?_)
  · have hok : (txP (M 10) L).1 = true := hok
    have a7 : MR M6 L q7 0 (txP (M 10) L).2.2 M7 := a7
    have hlen := txP_len hL4 hok
    generalize (txP (M 10) L).2.2 = cd at *
    refine ⟨fun q => absurd q (by decide), fun _ M8 m8 => ⟨fun _ => ?_, fun q => absurd q (by decide)⟩⟩
    have hq8 : ClQ M M8 := by rw [m8]; exact clq M7 a7.1 _
    have w8 : ∀ k, k < 5165 → M8 1 k = M 1 k := fun k hk => by rw [m8, ms_off _ _ _ (by omega), a7.1.2.1 k hk, hc 1 (by omega)]
    have h24 : M8 0 24 = -1 := by rw [m8, ms_at]
    have z8 : M8 0 0 = 0 := by rw [m8, ms_ne _ _ _ (by omega), a7.1.2.2 0 (by omega) (by omega) (by omega) (by omega)]; exact h00
    have s8 : M8 0 26 = nI cd.length := by rw [m8, ms_ne _ _ _ (by omega)]; exact a7.2.2.2.2.1
    have d8 : ∀ k x, cd[k]? = some x → M8 1 (5166 + 2 * k) = trS x ∧ M8 1 (5167 + 2 * k) = trV x := fun k x hx => by rw [m8, ms_off _ _ _ (by omega)]; exact a7.2.2.2.2.2 k x hx
    clear m8 a7
    refine tIn0 (b := false) (fun _ => ⟨vin_nI (n := 10) (by omega) (by omega), ?_⟩) (fun e => absurd e (by decide))
    rw [e10, w8 10 (by omega), hn, show (6 : Int32) = nI 6 from rfl, nI_eq (by omega) (by omega)]
    refine ⟨fun c6 => ?_, fun c6 => ?_⟩
    · refine tI0n (b := false) (fun _ => ⟨vin_nI (n := 10) (by omega) (by omega), fun x2 e2 => ?_⟩) (fun e => absurd e (by decide))
      rw [e10, w8 10 (by omega), hn] at e2
      have hnew := hnew hok (by omega)
      generalize hN : nn (M 1 10) = n at *
      have er : (359 : Int32) + 801 * 6 = nI 5165 := by decide
      show vp_in ((359 : Int32) + 801 * 6) 5966 ∧ _
      rw [er, nI_clamp (by omega)]
      refine ⟨vin_nI (by omega) (by omega), fun M9 m9 => ?_⟩
      rw [s8] at m9
      have w9 : ∀ k, k ≠ 5165 → M9 1 k = M8 1 k := fun k hk => by rw [m9, ms_ne _ _ _ hk]
      have l9 : M9 1 5165 = nI cd.length := by rw [m9, ms_at]
      have c9 : ∀ c, c ≠ 1 → M9 c = M8 c := fun c hc => by rw [m9, ms_off _ _ _ hc]
      clear m9
      have key : ∃ j, ∀ M10, (∀ c, c ≠ 1 → M10 c = M9 c) → (∀ i, M10 1 i = if 359 + 801 * n ≤ i ∧ i < 359 + 801 * n + 0 then M9 1 (5165 + (i - (359 + 801 * n))) else M9 1 i) → P_M_claim_93 post j x2 (nI 0) M10 := by
        refine lpN (R := fun j k => ∀ M10, (∀ c, c ≠ 1 → M10 c = M9 c) → (∀ i, M10 1 i = if 359 + 801 * n ≤ i ∧ i < 359 + 801 * n + k then M9 1 (5165 + (i - (359 + 801 * n))) else M9 1 i) → P_M_claim_93 post j x2 (nI k) M10) (N := 801) (fun q M10 b1 b2 => brSt (N := 801) rfl ⟨vin_nI (n := 10) (by omega) (by omega), vin_nI (n := 10) (by omega) (by omega), fun M11 m11 => ?_⟩) (fun q k hk ih M10 b1 b2 => brGo (N := 801) rfl (by omega) hk ?_)
        · have v10 : M10 1 10 = M 1 10 := by rw [b2 10, if_neg (by omega), w9 10 (by omega)]; exact w8 10 (by omega)
          rw [e10, v10] at m11
          have r11 : ∀ k, k ≠ 10 → M11 1 k = M10 1 k := fun k hk => by rw [m11, ms_ne _ _ _ hk]
          have c11 : ∀ c, c ≠ 1 → M11 c = M8 c := fun c hc => by rw [m11, ms_off _ _ _ hc, b1 c hc, c9 c hc]
          have hp : post (M 1 10) M11 := by
            refine hnew M11 ?_ (fun k hk k10 hr => ?_) (by rw [m11, ms_at]) ⟨?_, fun k x hx => ?_⟩ (by rw [c11 0 (by omega)]; exact h24) (by rw [c11 0 (by omega)]; exact z8)
            · obtain ⟨q1, q2, q3, q4⟩ := hq8
              exact ⟨by rw [c11 2 (by omega)]; exact q1, by rw [c11 10 (by omega)]; exact q2, by rw [c11 0 (by omega)]; exact q3, by rw [c11 0 (by omega)]; exact q4⟩
            · rw [r11 k k10, b2 k, if_neg (by omega), w9 k (by omega)]; exact w8 k hk
            · rw [r11 _ (by omega), b2, if_pos (by omega), show 5165 + (359 + 801 * n - (359 + 801 * n)) = 5165 by omega]; exact l9
            · have hkl := (List.getElem?_eq_some_iff.mp hx).1
              rw [r11 _ (by omega), r11 _ (by omega), b2, if_pos (by omega), b2, if_pos (by omega)]
              rw [show 5165 + (360 + 801 * n + 2 * k - (359 + 801 * n)) = 5166 + 2 * k by omega, show 5165 + (361 + 801 * n + 2 * k - (359 + 801 * n)) = 5167 + 2 * k by omega, w9 _ (by omega), w9 _ (by omega)]
              exact d8 k x hx
          rw [hn] at hp
          rw [e2]; exact hp
        · have ea : (359 : Int32) + 801 * x2 + nI k = nI (359 + 801 * n + k) := by rw [e2, ixI 359 801 n, nI_add]
          have eb : (359 : Int32) + 801 * 6 + nI k = nI (5165 + k) := by rw [er, nI_add]
          show vp_in ((359 : Int32) + 801 * 6 + nI k) 5966 ∧ vp_in ((359 : Int32) + 801 * x2 + nI k) 5966 ∧ ∀ M4, M4 = ms M10 1 ((359 : Int32) + 801 * x2 + nI k).toNatClampNeg (M10 1 ((359 : Int32) + 801 * 6 + nI k).toNatClampNeg) → _
          rw [ea, eb, nI_clamp (by omega), nI_clamp (by omega)]
          refine ⟨vin_nI (by omega) (by omega), vin_nI (by omega) (by omega), fun M11 m11 => ?_⟩
          rw [nI_1]
          refine ih M11 (fun c hc => by rw [m11, ms_off _ _ _ hc, b1 c hc]) (fun i => ?_)
          rw [m11]
          by_cases hi : i = 359 + 801 * n + k
          · rw [hi, ms_at, b2, if_neg (by omega), if_pos (by omega)]; congr 1; omega
          · rw [ms_ne _ _ _ hi, b2]
            by_cases hr : 359 + 801 * n ≤ i ∧ i < 359 + 801 * n + k
            · rw [if_pos hr, if_pos (by omega)]
            · rw [if_neg hr, if_neg (by omega)]
      obtain ⟨j, hj⟩ := key
      exact ⟨j, hj M9 (fun _ _ => rfl) (fun i => by rw [if_neg (by omega)])⟩
    · refine tI0n (b := true) (fun e => absurd e (by decide)) (fun _ => ?_)
      refine hfull hok c6 _ (thq hq8) (fun k hk => ?_) ?_ (thr_0 _ _)
      · rw [thr_off _ _ (by omega)]; exact w8 k hk
      · rw [thr, ms_ne _ _ _ (by omega)]; exact h24
  · have hok : (txP (M 10) L).1 = false := hok
    have f7 : MF M6 (txP (M 10) L).2.1 M7 := f7
    refine ⟨fun _ M8 m8 => ⟨fun q => absurd (by decide) q, fun _ => ?_⟩, fun q => absurd (by decide) q⟩
    refine tIn0 (b := true) (fun e => absurd e (by decide)) (fun _ => ?_)
    have hq8 : ClQ M M8 := by rw [m8]; exact clq M7 f7.1 _
    refine hbad hok _ (thq hq8) (fun k hk => ?_) ?_ (thr_0 _ _)
    · rw [thr_off _ _ (by omega), m8, ms_off _ _ _ (by omega), f7.1.2.1 k hk, hc 1 (by omega)]
    · rw [thr, ms_ne _ _ _ (by omega), m8, ms_at]; exact f7.2
