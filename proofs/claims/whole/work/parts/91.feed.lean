/-! FEEDS: THE TAPE BEYOND STAYS -/
def FdQ2 (M : Mem) (n : Nat) (by_ : Nat → Int32) (c : Nat) (M' : Mem) : Prop := M' 1 = M 1 ∧ M' 2 = M 2 ∧ M' 0 3 = M 0 3 ∧ M' 0 24 = M 0 24 ∧ M' 0 0 = 0 ∧ (∀ k, (k < n ∨ n + c ≤ k) → M' 10 k = M 10 k) ∧ ∀ k, k < c → M' 10 (n + k) = by_ k
theorem s_M_feed2 {post : Int32 → Mem → Prop} {x1 x2 x3 x4 x5 : Int32} {n : Nat} {M : Mem} (hn : M 0 19 = nI n) (hn400 : n ≤ 400) (h1 : n + 20 ≤ 400 → ∀ M', FdQ2 M n (fdB x1 x2 x3 x4 x5) 20 M' → M' 0 19 = nI (n + 20) → post (nI (n + 20)) M') (h2 : ¬ n + 20 ≤ 400 → Qr post M (qi 0 (-1))) : P_M_feed post x1 x2 x3 x4 x5 M := by
  have e19 : thr M 0 0 19 = nI n := by rw [thr, ms_ne _ _ _ (by omega)]; exact hn
  have e20 : thr M 0 0 19 + 20 = nI (n + 20) := by rw [e19, lit_nI 20, nI_add]
  refine th0 ?_
  rw [e20, show (400 : Int32) = nI 400 from rfl, nI_le_iff (by omega) (by omega)]
  refine ⟨fun c => ?_, fun c => Qr.plain (h2 c)⟩
  refine ⟨vin_nI (n := 0) (by omega) (by omega), fun M2 m2 => ⟨vin_nI (n := 1) (by omega) (by omega), fun M3 m3 => ⟨vin_nI (n := 2) (by omega) (by omega), fun M4 m4 => ⟨vin_nI (n := 3) (by omega) (by omega), fun M5 m5 => ⟨vin_nI (n := 4) (by omega) (by omega), fun M6 m6 => ?_⟩⟩⟩⟩⟩
  have hoff : ∀ c, c ≠ 11 → M6 c = thr M 0 c := by
    intro c hc
    rw [m6, ms_off _ _ _ hc, m5, ms_off _ _ _ hc, m4, ms_off _ _ _ hc, m3, ms_off _ _ _ hc, m2, ms_off _ _ _ hc]
  have hfive : ∀ j, j < 5 → M6 11 j = fvF x1 x2 x3 x4 x5 j := by
    intro j hj
    rw [m6, ms_row, m5, ms_row, m4, ms_row, m3, ms_row, m2, ms_row]
    rcases (by omega : j = 0 ∨ j = 1 ∨ j = 2 ∨ j = 3 ∨ j = 4) with rfl | rfl | rfl | rfl | rfl <;> rfl
  have hz : FdQ2 M n (fdB x1 x2 x3 x4 x5) 0 M6 := by
    refine ⟨by rw [hoff 1 (by omega), thr1], by rw [hoff 2 (by omega)]; exact thr_off _ _ (by omega), ?_, ?_, ?_, fun k _ => by rw [hoff 10 (by omega), thr_off _ _ (by omega)], fun k hk => by omega⟩
    · rw [hoff 0 (by omega), thr, ms_ne _ _ _ (by omega)]
    · rw [hoff 0 (by omega), thr, ms_ne _ _ _ (by omega)]
    · rw [hoff 0 (by omega)]; exact thr_0 _ _
  have h19 : M6 0 19 = nI n := by rw [hoff 0 (by omega)]; exact e19
  generalize hby : fdB x1 x2 x3 x4 x5 = by_ at *
  have key : ∃ j, ∀ M7, FdQ2 M n by_ 0 M7 → M7 0 19 = nI n → M7 11 = M6 11 → P_M_feed_60 post j (nI 0) M7 := by
    refine lpN (R := fun j k => ∀ M7, FdQ2 M n by_ k M7 → M7 0 19 = nI n → M7 11 = M6 11 → P_M_feed_60 post j (nI k) M7) (N := 20) (fun q M7 hQ a19 a11 => brSt (N := 20) rfl (fun M8 m8 => ?_)) (fun q k hk ih M7 hQ a19 a11 => brGo (N := 20) rfl (by omega) hk ?_)
    · rw [a19, lit_nI 20, nI_add] at m8
      have e8 : M8 0 19 = nI (n + 20) := by rw [m8, ms_at]
      rw [e8]
      obtain ⟨q1, q2, q3, q4, q5, q6, q7⟩ := hQ
      refine h1 c M8 ⟨?_, ?_, ?_, ?_, ?_, fun k hk => ?_, fun k hk => ?_⟩ e8
      · rw [m8, ms_off _ _ _ (by omega)]; exact q1
      · rw [m8, ms_off _ _ _ (by omega)]; exact q2
      · rw [m8, ms_ne _ _ _ (by omega)]; exact q3
      · rw [m8, ms_ne _ _ _ (by omega)]; exact q4
      · rw [m8, ms_ne _ _ _ (by omega)]; exact q5
      · rw [m8, ms_off _ _ _ (by omega)]; exact q6 k (by omega)
      · rw [m8, ms_off _ _ _ (by omega)]; exact q7 k hk
    · have ed : nI k / 4 = nI (k / 4) := by rw [lit_nI 4]; exact nI_div (by omega) (by omega) (by omega)
      have er : irm (nI k) 4 = nI (k % 4) := by rw [lit_nI 4, nI_I, nI_I, I_rem (by omega) (by omega), nI_I]; rfl
      have es : (24 : Int32) - 8 * nI (k % 4) = nI (24 - 8 * (k % 4)) := by
        rw [lit_nI 8, pk_mul, show (24 : Int32) = I 24 from rfl, nI_I, I_sub, nI_I]; congr 1; omega
      have ea : M7 0 19 + nI k = nI (n + k) := by rw [a19, nI_add]
      rw [ed, er, es, ea, nI_clamp (by omega), nI_clamp (by omega)]
      refine ⟨vin_nI (by omega) (by omega), fun v2 e2 => ⟨vin_nI (by omega) (by omega), fun M8 m8 => ?_⟩⟩
      rw [a11, hfive _ (by omega)] at e2
      have ev : vp_nar .byte v2.toInt8.toInt32 = by_ k := by rw [← hby, e2]; rfl
      rw [ev] at m8
      rw [nI_1]
      obtain ⟨q1, q2, q3, q4, q5, q6, q7⟩ := hQ
      refine ih M8 ⟨?_, ?_, ?_, ?_, ?_, fun i hi => ?_, fun i hi => ?_⟩ ?_ ?_
      · rw [m8, ms_off _ _ _ (by omega)]; exact q1
      · rw [m8, ms_off _ _ _ (by omega)]; exact q2
      · rw [m8, ms_off _ _ _ (by omega)]; exact q3
      · rw [m8, ms_off _ _ _ (by omega)]; exact q4
      · rw [m8, ms_off _ _ _ (by omega)]; exact q5
      · rw [m8, ms_ne _ _ _ (by omega)]; exact q6 i (by omega)
      · rw [m8]
        by_cases e : i = k
        · rw [e, ms_at]
        · rw [ms_ne _ _ _ (by omega)]; exact q7 i (by omega)
      · rw [m8, ms_off _ _ _ (by omega)]; exact a19
      · rw [m8, ms_off _ _ _ (by omega)]; exact a11
  obtain ⟨j, hj⟩ := key
  exact ⟨j, hj M6 hz h19 rfl⟩
section FEED2
variable {M : Mem}
def TkQ2 (M : Mem) (n : Nat) (by_ : Nat → Int32) (c : Nat) (M' : Mem) : Prop := (∀ d, d ≠ 84 → d ≠ 85 → M' d = M d) ∧ (∀ k, k ≠ 4 → M' 84 k = M 84 k) ∧ M' 84 4 = nI (n + c) ∧ (∀ k, (k < n ∨ n + c ≤ k) → M' 85 k = M 85 k) ∧ ∀ k, k < c → M' 85 (n + k) = by_ k
theorem s_C_take2 {post : Mem → Prop} {x1 : Int32} {n : Nat} (hn : M 84 4 = nI n) (hn4 : n + 4 ≤ 400) (h : ∀ M', TkQ2 M n (fun i => vp_nar .byte (x1 >>> (nI (24 - 8 * i) &&& 31)).toInt8.toInt32) 4 M' → post M') : P_Reader_take post x1 M := by
  generalize hB : (fun i => vp_nar .byte (x1 >>> (nI (24 - 8 * i) &&& 31)).toInt8.toInt32) = B at h
  have hBi : ∀ i, B i = vp_nar .byte (x1 >>> (nI (24 - 8 * i) &&& 31)).toInt8.toInt32 := fun i => by rw [← hB]
  have key : ∃ j, ∀ M1, TkQ2 M n B 0 M1 → P_Reader_take_3 post j x1 (I (24 - 8 * ((0 : Nat) : Int))) M1 := by
    refine lpN (R := fun j i => ∀ M1, TkQ2 M n B i M1 → P_Reader_take_3 post j x1 (I (24 - 8 * (i : Int))) M1) (N := 4) (fun j M1 f1 => ⟨fun _ => h M1 f1, fun c => absurd (by decide) c⟩) (fun j i hi ih M1 f1 => ⟨fun c => ?_, fun _ => ?_⟩)
    · rw [show (0 : Int32) = I 0 from rfl, I_lt (by omega) (by omega)] at c; omega
    · rw [f1.2.2.1, lit_nI 400, nI_le_iff (by omega) (by omega)]
      refine ⟨fun c => by omega, fun _ => ⟨vin_nI (by omega) (by omega), fun M2 m2 M3 m3 => ?_⟩⟩
      rw [nI_clamp (by omega)] at m2
      have e84 : M2 84 4 = nI (n + i) := by rw [m2, ms_off _ _ _ (by omega)]; exact f1.2.2.1
      rw [e84] at m3
      have ex : I (24 - 8 * (i : Int)) + -8 = I (24 - 8 * ((i + 1 : Nat) : Int)) := by rw [show (-8 : Int32) = I (-8) from rfl, I_add]; congr 1; omega
      have ex2 : I (24 - 8 * (i : Int)) = nI (24 - 8 * i) := by rw [nI_I]; congr 1; omega
      rw [ex]
      refine ih M3 ⟨fun d h1 h2 => ?_, fun k hk => ?_, ?_, fun k hk => ?_, fun k hk => ?_⟩
      · rw [m3, ms_off _ _ _ h1, m2, ms_off _ _ _ h2]; exact f1.1 d h1 h2
      · rw [m3, ms_ne _ _ _ hk, m2, ms_off _ _ _ (by omega)]; exact f1.2.1 k hk
      · rw [m3, ms_at, nI_1]; rfl
      · rw [m3, ms_off _ _ _ (by omega), m2, ms_ne _ _ _ (by omega)]; exact f1.2.2.2.1 k (by omega)
      · rw [m3, ms_off _ _ _ (by omega), m2]
        by_cases q : k = i
        · subst q; rw [ms_at, ex2, hBi]
        · rw [ms_ne _ _ _ (by omega)]; exact f1.2.2.2.2 k (by omega)
  obtain ⟨j, hj⟩ := key
  exact ⟨j, hj M ⟨fun _ _ _ => rfl, fun _ _ => rfl, hn, fun _ _ => rfl, fun k hk => by omega⟩⟩
theorem TkQ2.add {M M1 M2 : Mem} {n c : Nat} {A B C : Nat → Int32} (h1 : TkQ2 M n A c M1) (h2 : TkQ2 M1 (n + c) B 4 M2) (hA : ∀ k, k < c → C k = A k) (hB : ∀ k, k < 4 → C (c + k) = B k) : TkQ2 M n C (c + 4) M2 := by
  refine ⟨fun d q1 q2 => by rw [h2.1 d q1 q2, h1.1 d q1 q2], fun k hk => by rw [h2.2.1 k hk, h1.2.1 k hk], by rw [h2.2.2.1, Nat.add_assoc], fun k hk => by rw [h2.2.2.2.1 k (by omega), h1.2.2.2.1 k (by omega)], fun k hk => ?_⟩
  by_cases q : k < c
  · rw [h2.2.2.2.1 (n + k) (by omega), h1.2.2.2.2 k q, hA k q]
  · have := h2.2.2.2.2 (k - c) (by omega)
    rw [show n + c + (k - c) = n + k by omega] at this
    rw [this, ← hB (k - c) (by omega), show c + (k - c) = k by omega]
theorem s_R_feed2 {post : Int32 → Mem → Prop} {x1 x2 x3 x4 x5 : Int32} {n : Nat} (hn : M 84 4 = nI n) (hn400 : n ≤ 400) (h1 : n + 20 ≤ 400 → ∀ M', TkQ2 M n (fdB x1 x2 x3 x4 x5) 20 M' → post (nI (n + 20)) M') (h2 : ¬ n + 20 ≤ 400 → post (-1) M) : P_R_feed post x1 x2 x3 x4 x5 M := by
  unfold P_R_feed
  rw [hn, lit_nI 20, nI_add, lit_nI 400, nI_le_iff (by omega) (by omega)]
  refine ⟨fun c => ?_, h2⟩
  refine s_C_take2 hn (by omega) (fun M1 f1 => s_C_take2 f1.2.2.1 (by omega) (fun M2 f2 => s_C_take2 (n := n + 4 + 4) (by rw [f2.2.2.1]) (by omega) (fun M3 f3 => s_C_take2 (n := n + 4 + 4 + 4) (by rw [f3.2.2.1]) (by omega) (fun M4 f4 => s_C_take2 (n := n + 4 + 4 + 4 + 4) (by rw [f4.2.2.1]) (by omega) (fun M5 f5 => ?_)))))
  have hb : ∀ j k, k < 4 → fdB x1 x2 x3 x4 x5 (4 * j + k) = vp_nar .byte ((fvF x1 x2 x3 x4 x5 j) >>> (nI (24 - 8 * k) &&& 31)).toInt8.toInt32 := by
    intro j k hk
    unfold fdB
    rw [show (4 * j + k) / 4 = j by omega, show (4 * j + k) % 4 = k by omega]
  have g1 : TkQ2 M n (fdB x1 x2 x3 x4 x5) 4 M1 := ⟨f1.1, f1.2.1, f1.2.2.1, f1.2.2.2.1, fun k hk => by rw [f1.2.2.2.2 k hk]; have := hb 0 k hk; rw [show 4 * 0 + k = k by omega] at this; rw [this]; rfl⟩
  have g2 := g1.add (C := fdB x1 x2 x3 x4 x5) f2 (fun _ _ => rfl) (fun k hk => (hb 1 k hk).trans rfl)
  have g3 := g2.add (C := fdB x1 x2 x3 x4 x5) f3 (fun _ _ => rfl) (fun k hk => (hb 2 k hk).trans rfl)
  have g4 := g3.add (C := fdB x1 x2 x3 x4 x5) f4 (fun _ _ => rfl) (fun k hk => (hb 3 k hk).trans rfl)
  have g5 := g4.add (C := fdB x1 x2 x3 x4 x5) f5 (fun _ _ => rfl) (fun k hk => (hb 4 k hk).trans rfl)
  have e84 : M5 84 4 = nI (n + 20) := g5.2.2.1
  rw [e84]
  exact h1 c M5 g5
end FEED2
