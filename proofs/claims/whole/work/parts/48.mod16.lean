/-! THE REFERENCE: feed, end, image, back, count, fault -/
def fvF (x1 x2 x3 x4 x5 : Int32) (j : Nat) : Int32 := if j = 0 then x1 else if j = 1 then x2 else if j = 2 then x3 else if j = 3 then x4 else x5
/-- byte k of the five numbers -/
def fdB (x1 x2 x3 x4 x5 : Int32) (k : Nat) : Int32 := vp_nar .byte ((fvF x1 x2 x3 x4 x5 (k / 4)) >>> (nI (24 - 8 * (k % 4)) &&& 31)).toInt8.toInt32
/-- what a feed leaves -/
def FdQ (M : Mem) (n : Nat) (by_ : Nat → Int32) (c : Nat) (M' : Mem) : Prop := M' 1 = M 1 ∧ M' 2 = M 2 ∧ M' 0 3 = M 0 3 ∧ M' 0 24 = M 0 24 ∧ M' 0 0 = 0 ∧ (∀ k, k < n → M' 10 k = M 10 k) ∧ ∀ k, k < c → M' 10 (n + k) = by_ k
theorem s_M_feed {post : Int32 → Mem → Prop} {x1 x2 x3 x4 x5 : Int32} {n : Nat} {M : Mem} (hn : M 0 19 = nI n) (hn400 : n ≤ 400) (h1 : n + 20 ≤ 400 → ∀ M', FdQ M n (fdB x1 x2 x3 x4 x5) 20 M' → M' 0 19 = nI (n + 20) → post (nI (n + 20)) M') (h2 : ¬ n + 20 ≤ 400 → Qr post M (qi 0 (-1))) : P_M_feed post x1 x2 x3 x4 x5 M := by
  have e19 : thr M 0 0 19 = nI n := by rw [thr, ms_ne _ _ _ (by omega)]; exact hn
  have e20 : thr M 0 0 19 + 20 = nI (n + 20) := by rw [e19, lit_nI 20, nI_add]
  refine th0 ?_
  rw [e20, show (400 : Int32) = nI 400 from rfl, nI_le_iff (by omega) (by omega)]
  refine ⟨fun c => ?_, fun c => Qr.plain (h2 c)⟩
  refine ⟨vin_nI (n := 0) (by omega) (by omega), fun M2 m2 => ⟨vin_nI (n := 1) (by omega) (by omega), fun M3 m3 => ⟨vin_nI (n := 2) (by omega) (by omega), fun M4 m4 => ⟨vin_nI (n := 3) (by omega) (by omega), fun M5 m5 => ⟨vin_nI (n := 4) (by omega) (by omega), fun M6 m6 => ?_⟩⟩⟩⟩⟩
  have hoff : ∀ c, c ≠ 11 → M6 c = thr M 0 c := by
    intro c hc
    rw [m6, ms_off _ _ _ hc, m5, ms_off _ _ _ hc, m4, ms_off _ _ _ hc, m3, ms_off _ _ _ hc, m2, ms_off _ _ _ hc]
  have hfive : ∀ j, j < 5 → M6 11 j = fvF x1 x2 x3 x4 x5 j := by
    intro j hj
    rw [m6, ms_row, m5, ms_row, m4, ms_row, m3, ms_row, m2, ms_row]
    rcases (by omega : j = 0 ∨ j = 1 ∨ j = 2 ∨ j = 3 ∨ j = 4) with rfl | rfl | rfl | rfl | rfl <;> rfl
  have hz : FdQ M n (fdB x1 x2 x3 x4 x5) 0 M6 := by
    refine ⟨by rw [hoff 1 (by omega), thr1], by rw [hoff 2 (by omega)]; exact thr_off _ _ (by omega), ?_, ?_, ?_, fun k _ => by rw [hoff 10 (by omega), thr_off _ _ (by omega)], fun k hk => by omega⟩
    · rw [hoff 0 (by omega), thr, ms_ne _ _ _ (by omega)]
    · rw [hoff 0 (by omega), thr, ms_ne _ _ _ (by omega)]
    · rw [hoff 0 (by omega)]; exact thr_0 _ _
  have h19 : M6 0 19 = nI n := by rw [hoff 0 (by omega)]; exact e19
  generalize hby : fdB x1 x2 x3 x4 x5 = by_ at *
  have key : ∃ j, ∀ M7, FdQ M n by_ 0 M7 → M7 0 19 = nI n → M7 11 = M6 11 → P_M_feed_60 post j (nI 0) M7 := by
    refine lpN (R := fun j k => ∀ M7, FdQ M n by_ k M7 → M7 0 19 = nI n → M7 11 = M6 11 → P_M_feed_60 post j (nI k) M7) (N := 20) (fun q M7 hQ a19 a11 => brSt (N := 20) rfl (fun M8 m8 => ?_)) (fun q k hk ih M7 hQ a19 a11 => brGo (N := 20) rfl (by omega) hk ?_)
    · rw [a19, lit_nI 20, nI_add] at m8
      have e8 : M8 0 19 = nI (n + 20) := by rw [m8, ms_at]
      rw [e8]
      obtain ⟨q1, q2, q3, q4, q5, q6, q7⟩ := hQ
      refine h1 c M8 ⟨?_, ?_, ?_, ?_, ?_, fun k hk => ?_, fun k hk => ?_⟩ e8
      · rw [m8, ms_off _ _ _ (by omega)]; exact q1
      · rw [m8, ms_off _ _ _ (by omega)]; exact q2
      · rw [m8, ms_ne _ _ _ (by omega)]; exact q3
      · rw [m8, ms_ne _ _ _ (by omega)]; exact q4
      · rw [m8, ms_ne _ _ _ (by omega)]; exact q5
      · rw [m8, ms_off _ _ _ (by omega)]; exact q6 k hk
      · rw [m8, ms_off _ _ _ (by omega)]; exact q7 k hk
    · have ed : nI k / 4 = nI (k / 4) := by rw [lit_nI 4]; exact nI_div (by omega) (by omega) (by omega)
      have er : irm (nI k) 4 = nI (k % 4) := by rw [lit_nI 4, nI_I, nI_I, I_rem (by omega) (by omega), nI_I]; rfl
      have es : (24 : Int32) - 8 * nI (k % 4) = nI (24 - 8 * (k % 4)) := by
        rw [lit_nI 8, pk_mul, show (24 : Int32) = I 24 from rfl, nI_I, I_sub, nI_I]; congr 1; omega
      have ea : M7 0 19 + nI k = nI (n + k) := by rw [a19, nI_add]
      rw [ed, er, es, ea, nI_clamp (by omega), nI_clamp (by omega)]
      refine ⟨vin_nI (by omega) (by omega), fun v2 e2 => ⟨vin_nI (by omega) (by omega), fun M8 m8 => ?_⟩⟩
      rw [a11, hfive _ (by omega)] at e2
      have ev : vp_nar .byte v2.toInt8.toInt32 = by_ k := by rw [← hby, e2]; rfl
      rw [ev] at m8
      rw [nI_1]
      obtain ⟨q1, q2, q3, q4, q5, q6, q7⟩ := hQ
      refine ih M8 ⟨?_, ?_, ?_, ?_, ?_, fun i hi => ?_, fun i hi => ?_⟩ ?_ ?_
      · rw [m8, ms_off _ _ _ (by omega)]; exact q1
      · rw [m8, ms_off _ _ _ (by omega)]; exact q2
      · rw [m8, ms_off _ _ _ (by omega)]; exact q3
      · rw [m8, ms_off _ _ _ (by omega)]; exact q4
      · rw [m8, ms_off _ _ _ (by omega)]; exact q5
      · rw [m8, ms_ne _ _ _ (by omega)]; exact q6 i hi
      · rw [m8]
        by_cases e : i = k
        · rw [e, ms_at]
        · rw [ms_ne _ _ _ (by omega)]; exact q7 i (by omega)
      · rw [m8, ms_off _ _ _ (by omega)]; exact a19
      · rw [m8, ms_off _ _ _ (by omega)]; exact a11
  obtain ⟨j, hj⟩ := key
  exact ⟨j, hj M6 hz h19 rfl⟩
theorem s_M_end {post : Int32 → Mem → Prop} {x : Int32} {M : Mem} (h1 : ¬ x < 0 → x ≤ M 0 19 → ∀ M', M' 1 = M 1 → M' 2 = M 2 → M' 10 = M 10 → M' 0 3 = M 0 3 → M' 0 24 = M 0 24 → M' 0 0 = 0 → M' 0 19 = x → post 1 M') (h2 : (x < 0 ∨ ¬ x ≤ M 0 19) → Qr post M (qi 0 0)) : P_M_end post x M := by
  have e19 : thr M 0 0 19 = M 0 19 := by rw [thr, ms_ne _ _ _ (by omega)]
  refine th0 ⟨fun c => Qr.plain (h2 (Or.inl c)), fun c => ?_⟩
  rw [e19]
  refine ⟨fun c2 M2 m2 => ?_, fun c2 => Qr.plain (h2 (Or.inr c2))⟩
  refine h1 c c2 M2 ?_ ?_ ?_ ?_ ?_ ?_ ?_
  · rw [m2, ms_off _ _ _ (by omega), thr1]
  · rw [m2, ms_off _ _ _ (by omega)]; exact thr_off _ _ (by omega)
  · rw [m2, ms_off _ _ _ (by omega)]; exact thr_off _ _ (by omega)
  · rw [m2, ms_ne _ _ _ (by omega), thr, ms_ne _ _ _ (by omega)]
  · rw [m2, ms_ne _ _ _ (by omega), thr, ms_ne _ _ _ (by omega)]
  · rw [m2, ms_ne _ _ _ (by omega)]; exact thr_0 _ _
  · rw [m2, ms_at]
theorem s_M_fault {post : Int32 → Mem → Prop} {M : Mem} (h : Qr post M (qi 0 (M 0 24))) : P_M_fault post M := by
  refine th0 ?_
  have e : thr M 0 0 24 = M 0 24 := by rw [thr, ms_ne _ _ _ (by omega)]
  have := Qr.plain h
  rw [← e] at this
  exact this
theorem s_M_image {post : Mem → Prop} {M : Mem} (h : ∀ M', M' 1 = M 1 → (∀ k, k < 5165 → M' 2 k = M 1 k) → M' 10 = M 10 → M' 0 3 = 1 → M' 0 19 = M 0 19 → M' 0 24 = M 0 24 → M' 0 0 = 0 → post M') : P_M_image post M := by
  refine th0 ?_
  have key : ∃ j, ∀ M2, (∀ c, c ≠ 2 → M2 c = thr M 0 c) → (∀ k, k < 0 → M2 2 k = M 1 k) → P_M_image_7 post j (nI 0) M2 := by
    refine lpN (R := fun j x => ∀ M2, (∀ c, c ≠ 2 → M2 c = thr M 0 c) → (∀ k, k < x → M2 2 k = M 1 k) → P_M_image_7 post j (nI x) M2) (N := 5165) (fun n M2 h1 h2 => brSt (N := 5165) rfl (fun M3 m3 => ?_)) (fun n x hx ih M2 h1 h2 => brGo (N := 5165) rfl (by omega) hx ?_)
    · refine h M3 ?_ (fun k hk => ?_) ?_ ?_ ?_ ?_ ?_
      · rw [m3, ms_off _ _ _ (by omega), h1 1 (by omega), thr1]
      · rw [m3, ms_off _ _ _ (by omega)]; exact h2 k hk
      · rw [m3, ms_off _ _ _ (by omega), h1 10 (by omega), thr_off _ _ (by omega)]
      · rw [m3, ms_at]
      · rw [m3, ms_ne _ _ _ (by omega), h1 0 (by omega), thr, ms_ne _ _ _ (by omega)]
      · rw [m3, ms_ne _ _ _ (by omega), h1 0 (by omega), thr, ms_ne _ _ _ (by omega)]
      · rw [m3, ms_ne _ _ _ (by omega), h1 0 (by omega)]; exact thr_0 _ _
    · rw [nI_clamp (by omega), h1 1 (by omega), thr1]
      refine ⟨vin_nI (by omega) (by omega), vin_nI (by omega) (by omega), fun M3 m3 => ?_⟩
      rw [nI_1]
      refine ih M3 (fun c hc => by rw [m3, ms_off _ _ _ hc, h1 c hc]) (fun k hk => ?_)
      rw [m3]
      by_cases e : k = x
      · rw [e, ms_at]
      · rw [ms_ne _ _ _ e]; exact h2 k (by omega)
  obtain ⟨j, hj⟩ := key
  exact ⟨j, hj _ (fun _ _ => rfl) (fun k hk => by omega)⟩
theorem s_M_back {post : Int32 → Mem → Prop} {M : Mem} (h1 : ¬ M 0 3 = 0 → ∀ M', (∀ k, k < 5165 → M' 1 k = M 2 k) → M' 2 = M 2 → M' 10 = M 10 → M' 0 3 = M 0 3 → M' 0 19 = M 0 19 → M' 0 24 = M 0 24 → M' 0 0 = 0 → post 1 M') (h2 : M 0 3 = 0 → Qr post M (qi 0 0)) : P_M_back post M := by
  have e3 : thr M 0 0 3 = M 0 3 := by rw [thr, ms_ne _ _ _ (by omega)]
  refine th0 ?_
  rw [e3]
  refine ⟨fun c => ?_, fun c => Qr.plain (h2 c)⟩
  have key : ∃ j, ∀ M2, (∀ c, c ≠ 1 → M2 c = thr M 0 c) → (∀ k, k < 0 → M2 1 k = M 2 k) → P_M_back_16 post j (nI 0) M2 := by
    refine lpN (R := fun j x => ∀ M2, (∀ c, c ≠ 1 → M2 c = thr M 0 c) → (∀ k, k < x → M2 1 k = M 2 k) → P_M_back_16 post j (nI x) M2) (N := 5165) (fun n M2 a1 a2 => brSt (N := 5165) rfl ?_) (fun n x hx ih M2 a1 a2 => brGo (N := 5165) rfl (by omega) hx ?_)
    · refine h1 c M2 a2 ?_ ?_ ?_ ?_ ?_ ?_
      · rw [a1 2 (by omega), thr_off _ _ (by omega)]
      · rw [a1 10 (by omega), thr_off _ _ (by omega)]
      · rw [a1 0 (by omega), thr, ms_ne _ _ _ (by omega)]
      · rw [a1 0 (by omega), thr, ms_ne _ _ _ (by omega)]
      · rw [a1 0 (by omega), thr, ms_ne _ _ _ (by omega)]
      · rw [a1 0 (by omega)]; exact thr_0 _ _
    · rw [nI_clamp (by omega), a1 2 (by omega), thr_off _ _ (by omega)]
      refine ⟨vin_nI (by omega) (by omega), vin_nI (by omega) (by omega), fun M3 m3 => ?_⟩
      rw [nI_1]
      refine ih M3 (fun c hc => by rw [m3, ms_off _ _ _ hc, a1 c hc]) (fun k hk => ?_)
      rw [m3]
      by_cases e : k = x
      · rw [e, ms_at]
      · rw [ms_ne _ _ _ e]; exact a2 k (by omega)
  obtain ⟨j, hj⟩ := key
  exact ⟨j, hj _ (fun _ _ => rfl) (fun k hk => by omega)⟩
def ctA (w lo hi : Nat → Int32) (x : Int32) : Int32 :=
  if x = 0 then w 5 else if x = 1 then w 6 else if x = 2 then w 7 else if x = 3 then nI (sumN (fun e => nn (w (93 + 14 * e))) (nn (w 7))) else if x = 4 then w 8 else if x = 5 then w 9 else if x = 6 then nI (cntB (ghB w) (nn (w 9)))
  else if x = 7 then w 10 else if x = 8 then w 4 else if x = 9 then nI (cntB (spB lo hi) (nn (w 9))) else if x = 10 then w 11 else -1
theorem s_M_count {post : Int32 → Mem → Prop} {x : Int32} {M : Mem} (hI : WInv (M 1)) (h : Qs post M (fun lo hi => qi 0 (ctA (M 1) lo hi x))) : P_M_count post x M := by
  have hr : thr M 0 1 = M 1 := thr1 M
  have hh := h (fun r => I (edZ (M 1) (plZ (M 1) (-1) 0 r) false)) (fun r => I (edZ (M 1) (plZ (M 1) (-1) 0 r) true)) (fun r _ => ⟨rfl, rfl⟩)
  have pl : ∀ v, v = ctA (M 1) (fun r => I (edZ (M 1) (plZ (M 1) (-1) 0 r) false)) (fun r => I (edZ (M 1) (plZ (M 1) (-1) 0 r) true)) x → post v (thr M 0) := fun v hv => by rw [hv]; exact Qr.plain hh
  obtain ⟨hn9, hn24⟩ := hI.nr
  obtain ⟨hn7, hn6⟩ := hI.ne
  have hr9 : thr M 0 1 9 = nI (nn (M 1 9)) := by rw [hr]; exact hn9
  have hI0 : WInv (thr M 0 1) := by rw [hr]; exact hI
  refine th0 ⟨fun c => ⟨vin_nI (n := 5) (by omega) (by omega), pl _ ?_⟩, fun c0 => ⟨fun c => ⟨vin_nI (n := 6) (by omega) (by omega), pl _ ?_⟩, fun c1 => ⟨fun c => ⟨vin_nI (n := 7) (by omega) (by omega), pl _ ?_⟩, fun c2 => ⟨fun c => ?_, fun c3 => ⟨fun c => ⟨vin_nI (n := 8) (by omega) (by omega), pl _ ?_⟩, fun c4 => ⟨fun c => s_M_readings (pl _ ?_), fun c5 => ⟨fun c => ?_, fun c6 => ⟨fun c => ⟨vin_nI (n := 10) (by omega) (by omega), pl _ ?_⟩, fun c7 => ⟨fun c => ⟨vin_nI (n := 4) (by omega) (by omega), pl _ ?_⟩, fun c8 => ⟨fun c => s_sp hI (fun M' hM h0 h1 hL hS => ?_), fun c9 => ⟨fun c => ⟨vin_nI (n := 11) (by omega) (by omega), pl _ ?_⟩, fun c10 => pl _ ?_⟩⟩⟩⟩⟩⟩⟩⟩⟩⟩⟩
  · rw [hr]; unfold ctA; rw [if_pos c]; rfl
  · rw [hr]; unfold ctA; rw [if_neg c0, if_pos c]; rfl
  · rw [hr]; unfold ctA; rw [if_neg c0, if_neg c1, if_pos c]; rfl
  · have pl := pl (nI (sumN (fun e => nn (M 1 (93 + 14 * e))) (nn (M 1 7)))) (by unfold ctA; rw [if_neg c0, if_neg c1, if_neg c2, if_pos c])
    refine lpN (R := fun j e => P_M_count_93 post j (nI (sumN (fun e => nn (M 1 (93 + 14 * e))) e)) (nI e) (thr M 0)) (N := nn (M 1 7)) (fun n => ⟨vin_nI (n := 7) (by omega) (by omega), brSt (by rw [hr]; exact hn7) pl⟩) (fun n e he ih => ⟨vin_nI (n := 7) (by omega) (by omega), brGo (by rw [hr]; exact hn7) (by omega) he (s_M_lines (by omega) ?_)⟩)
    intro x2 e2
    rw [hr, (hI.nl (e := e) (by omega)).1, nI_add] at e2
    rw [e2, nI_1]; exact ih
  · rw [hr]; unfold ctA; rw [if_neg c0, if_neg c1, if_neg c2, if_neg c3, if_pos c]; rfl
  · rw [hr]; unfold ctA; rw [if_neg c0, if_neg c1, if_neg c2, if_neg c3, if_neg c4, if_pos c]
  · have pl := pl (nI (cntB (ghB (M 1)) (nn (M 1 9)))) (by unfold ctA; rw [if_neg c0, if_neg c1, if_neg c2, if_neg c3, if_neg c4, if_neg c5, if_pos c])
    refine lpN (R := fun j e => P_M_count_135 post j (nI (cntB (ghB (M 1)) e)) (nI e) (thr M 0)) (N := nn (M 1 9)) (fun n => s_M_readings (brSt hr9 pl)) (fun n e he ih => s_M_readings (brGo hr9 (by omega) he (s_M_isGhost hI0 (by omega) ?_)))
    rw [hr]
    refine b0n (fun c4 => ?_) (fun c4 => ?_)
    · intro x2 e2
      simp only [cntB, c4, Bool.false_eq_true, if_false, Nat.add_zero] at ih
      rw [e2, Int32.add_zero, nI_1]; exact ih
    · intro x2 e2
      simp only [cntB, c4, if_true] at ih
      rw [e2, nI_1, nI_1]; exact ih
  · rw [hr]; unfold ctA; rw [if_neg c0, if_neg c1, if_neg c2, if_neg c3, if_neg c4, if_neg c5, if_neg c6, if_pos c]; rfl
  · rw [hr]; unfold ctA; rw [if_neg c0, if_neg c1, if_neg c2, if_neg c3, if_neg c4, if_neg c5, if_neg c6, if_neg c7, if_pos c]; rfl
  · have h := h _ _ hS M' hM h0
    have e : ctA (M 1) (M' 5) (M' 6) x = nI (cntB (spB (M' 5) (M' 6)) (nn (M 1 9))) := by
      unfold ctA; rw [if_neg c0, if_neg c1, if_neg c2, if_neg c3, if_neg c4, if_neg c5, if_neg c6, if_neg c7, if_neg c8, if_pos c]
    simp only [] at h
    rw [e] at h
    have hn' : M' 1 9 = nI (nn (M 1 9)) := by rw [h1]; exact hn9
    refine lpN (R := fun j e => P_M_count_188 post j (nI (cntB (spB (M' 5) (M' 6)) e)) (nI e) M') (N := nn (M 1 9)) (fun n => s_M_readings (brSt hn' h)) (fun n e he ih => s_M_readings (brGo hn' (by omega) he (s_M_hasSpan (by omega) (b0n (fun c4 => ?_) (fun c4 => ?_)))))
    · intro x2 e2
      simp only [cntB, c4, Bool.false_eq_true, if_false, Nat.add_zero] at ih
      rw [e2, Int32.add_zero, nI_1]; exact ih
    · intro x2 e2
      simp only [cntB, c4, if_true] at ih
      rw [e2, nI_1, nI_1]; exact ih
  · rw [hr]; unfold ctA; rw [if_neg c0, if_neg c1, if_neg c2, if_neg c3, if_neg c4, if_neg c5, if_neg c6, if_neg c7, if_neg c8, if_neg c9, if_pos c]; rfl
  · unfold ctA; rw [if_neg c0, if_neg c1, if_neg c2, if_neg c3, if_neg c4, if_neg c5, if_neg c6, if_neg c7, if_neg c8, if_neg c9, if_neg c10]
