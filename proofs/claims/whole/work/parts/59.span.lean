/-! THE CLASS: solve, spans -/
theorem s_C_fill {post : Mem → Prop} {v : Int32} {M : Mem} (h : ∀ M', (∀ c, c ≠ 67 → M' c = M c) → (∀ s, s < 1087 → M' 67 s = v) → post M') : P_Arrays_fill post v M := by
  have key : ∃ j, ∀ M1, (∀ c, c ≠ 67 → M1 c = M c) → (∀ s, s < 0 → M1 67 s = v) → P_Arrays_fill_5 post j v (nI 0) (1087 : Int32) M1 := by
    refine lpN (R := fun j x => ∀ M1, (∀ c, c ≠ 67 → M1 c = M c) → (∀ s, s < x → M1 67 s = v) → P_Arrays_fill_5 post j v (nI x) (1087 : Int32) M1) (N := 1087) (fun j M1 h1 h2 => brSt (N := 1087) rfl (h M1 h1 h2)) (fun j x hx ih M1 h1 h2 => brGo (N := 1087) rfl (by omega) hx ⟨vin_nI hx (by omega), fun M2 m2 => ?_⟩)
    rw [nI_clamp (by omega)] at m2
    rw [nI_1]
    refine ih M2 (fun c hc => by rw [m2, ms_off _ _ _ hc, h1 c hc]) (fun s hs => ?_)
    rw [m2]
    by_cases e : s = x
    · rw [e, ms_at]
    · rw [ms_ne _ _ _ e]; exact h2 s (by omega)
  obtain ⟨j, hj⟩ := key
  exact ⟨j, hj M (fun _ _ => rfl) (fun s hs => by omega)⟩
theorem s_C_putPlaces {post : Mem → Prop} {w : Nat → Int32} {s : Int} {M : Mem} (hD : Dk 1 M w) (hI : WInv w) (h : ∀ M', (∀ c, c ≠ 64 → M' c = M c) → PlOK M' w s → post M') : P_Laws_putPlaces post (I s) M := by
  obtain ⟨hn, hn10⟩ := hI.nk
  have key : ∃ j, ∀ M1, (∀ c, c ≠ 64 → M1 c = M c) → (∀ x, x < 0 → M1 64 x = I (knZ w s x)) → P_Laws_putPlaces_10 post j (I s) (nI 0) M1 := by
    refine lpN (R := fun j k => ∀ M1, (∀ c, c ≠ 64 → M1 c = M c) → (∀ x, x < k → M1 64 x = I (knZ w s x)) → P_Laws_putPlaces_10 post j (I s) (nI k) M1) (N := nn (w 6)) (fun j M1 h1 h2 => ?_) (fun j k hk ih M1 h1 h2 => ?_)
    · have hD1 : Dk 1 M1 w := hD.off (fun c _ _ => h1 c (by omega))
      exact brSt (by rw [hD1.nk]; exact hn) (h M1 h1 h2)
    · have hD1 : Dk 1 M1 w := hD.off (fun c _ _ => h1 c (by omega))
      have hk10 : k < 10 := by omega
      have hkn := hI.kn hk10
      have h01 : ∀ i, rg (w i) 0 1 → w i = 0 ∨ w i = 1 := by
        intro i hr
        unfold rg at hr
        rcases (by omega : (w i).toInt = 0 ∨ (w i).toInt = 1) with q | q
        · left; rw [eqI]; exact q
        · right; rw [eqI]; exact q
      refine brGo (by rw [hD1.nk]; exact hn) (by omega) hk ?_
      rw [nI_clamp (by omega), hD1.kp hk10, hD1.kd hk10]
      refine ⟨vin_nI (by omega) (by omega), vin_nI (by omega) (by omega), s_C_truePlace hD1 hI (h01 _ hkn.2.1) ⟨vin_nI (by omega) (by omega), ?_⟩⟩
      rw [hD1.ks hk10]
      have put : ∀ v : Int32, v = I (knZ w s k) → P_Laws_putPlaces_65 post (P_Laws_putPlaces_10 post j) (I s) (nI k) (nI k) v M1 := by
        intro v hv
        refine ⟨vin_nI (by omega) (by omega), fun M2 m2 => ?_⟩
        rw [nI_clamp (by omega)] at m2
        rw [nI_1]
        refine ih M2 (fun c hc => by rw [m2, ms_off _ _ _ hc, h1 c hc]) (fun x hx => ?_)
        rw [m2]
        by_cases e : x = k
        · rw [e, ms_at, hv]
        · rw [ms_ne _ _ _ e]; exact h2 x (by omega)
      refine ⟨fun q => put _ ?_, fun q => put _ ?_⟩
      · unfold knZ; rw [q, if_neg (by decide), Int.add_zero]; exact I_ofS _
      · unfold knZ; rw [if_pos ((h01 _ hkn.2.2.2).resolve_left q), ← I_add, I_of]
  obtain ⟨j, hj⟩ := key
  exact ⟨j, hj M (fun _ _ => rfl) (fun x hx => by omega)⟩
theorem sumZ_app (f : Nat → Int) (a : Nat) : ∀ m, sumZ f (a + m) = sumZ f a + sumZ (fun i => f (a + i)) m
  | 0 => by simp [sumZ]
  | m + 1 => by rw [← Nat.add_assoc]; simp only [sumZ]; rw [sumZ_app f a m]; omega
theorem sumZ_congr {f g : Nat → Int} : ∀ {n : Nat}, (∀ k, k < n → f k = g k) → sumZ f n = sumZ g n
  | 0, _ => rfl
  | n + 1, h => by simp only [sumZ]; rw [sumZ_congr (n := n) (fun k hk => h k (by omega)), h n (by omega)]
theorem sumZ_grid (F : Nat → Nat → Int) : ∀ n, sumZ (fun k => F (k / 19) (k % 19)) (19 * n) = sumZ (fun b => sumZ (fun c => F b c) 19) n
  | 0 => rfl
  | n + 1 => by
    rw [show 19 * (n + 1) = 19 * n + 19 by omega, sumZ_app, sumZ_grid F n]
    simp only [sumZ]
    congr 1
    have : ∀ c, c < 19 → F ((19 * n + c) / 19) ((19 * n + c) % 19) = F n c := fun c hc => by
      rw [show (19 * n + c) / 19 = n by omega, show (19 * n + c) % 19 = c by omega]
    have h2 := sumZ_congr (f := fun i => F ((19 * n + i) / 19) ((19 * n + i) % 19)) (g := fun c => F n c) (n := 19) this
    simp only [sumZ] at h2
    exact h2
theorem sumZ_add (f g : Nat → Int) : ∀ n, sumZ (fun k => f k + g k) n = sumZ f n + sumZ g n
  | 0 => rfl
  | n + 1 => by simp only [sumZ]; rw [sumZ_add f g n]; omega
theorem sumZ_zero : ∀ n, sumZ (fun _ => 0) n = 0
  | 0 => rfl
  | n + 1 => by simp only [sumZ]; rw [sumZ_zero n]; rfl
theorem sumZ_swap (F : Nat → Nat → Int) (m : Nat) : ∀ n, sumZ (fun b => sumZ (fun c => F b c) m) n = sumZ (fun c => sumZ (fun b => F b c) n) m
  | 0 => by simp only [sumZ]; exact (sumZ_zero m).symm
  | n + 1 => by simp only [sumZ]; rw [sumZ_swap F m n, ← sumZ_add]
theorem totC_toA (w : Nat → Int32) : totC w 19 0 = toA w 0 := by
  have h1 := sumZ_grid (fun b c => maA w 0 ((b : Int) + 1) ((c : Int) - 9)) 90
  rw [sumZ_swap] at h1
  have h2 : totC w 19 0 = sumZ (fun c => sumZ (fun b => maA w 0 ((b : Int) + 1) ((c : Int) - 9)) 90) 19 + 0 := rfl
  rw [h2, Int.add_zero]
  exact h1.symm
theorem okP_all {w : Nat → Int32} (k : Nat) : okP w 19 0 k = okA w k := by
  unfold okP
  rw [decide_eq_true (show k % 19 < 19 by omega)]; simp
theorem s_C_solve {post : Mem → Prop} {w : Nat → Int32} {M : Mem} (hD : Dk 1 M w) (hI : WInv w) (hL : Lw M w) (h : ∀ M', FrL M M' → LwOK M' w → post M') : P_Laws_solve post M := by
  refine ⟨fun hf => s_C_fill (fun M1 a1 a2 => ?_), fun hf => h M (FrL.refl M) (hL.resolve_left hf)⟩
  have hD1 : Dk 1 M1 w := hD.off (fun c _ _ => a1 c (by omega))
  refine s_C_putPlaces (s := 0) hD1 hI (fun M2 b1 b2 M3 m3 M4 m4 M5 m5 => ?_)
  have o5 : ∀ c, c ≠ 63 → M5 c = M2 c := fun c hc => by rw [m5, ms_off _ _ _ hc, m4, ms_off _ _ _ hc, m3, ms_off _ _ _ hc]
  have hD5 : Dk 1 M5 w := hD1.off (fun c _ _ => by rw [o5 c (by omega), b1 c (by omega)])
  have hP5 : PlOK M5 w 0 := fun x hx => by rw [o5 64 (by omega)]; exact b2 x hx
  have h67 : ∀ s, s < 1087 → M5 67 s = -1000000 := fun s hs => by rw [o5 67 (by omega), b1 67 (by omega)]; exact a2 s hs
  have e6 : M5 63 6 = nI 0 := by rw [m5, ms_ne _ _ _ (by omega), m4, ms_at]; rfl
  have e7 : M5 63 7 = nI 0 := by rw [m5, ms_at]; rfl
  have e8 : M5 63 8 = I 0 := by rw [m5, ms_ne _ _ _ (by omega), m4, ms_ne _ _ _ (by omega), m3, ms_at]; rfl
  have FL5 : FrL M M5 := fun c hc => by rw [o5 c (by omega), b1 c (by omega), a1 c (by omega)]
  clear m3 m4 m5
  have ok0 : ∀ k, okP w 0 0 k = false := fun k => by unfold okP; simp
  have B0 : ∃ g1 g2, M5 63 6 = nI g1 ∧ M5 63 7 = nI g2 ∧ BI w M5 0 0 g1 g2 := by
    refine ⟨0, 0, e6, e7, ⟨0, fun _ => 0, e6, by omega, by omega, ⟨fun i hi => by omega, fun z k hk hq => by rw [ok0] at hq; cases hq⟩, fun i h1 h2 => by omega, fun i j h1 h2 h3 => by omega⟩, ⟨0, fun _ => 0, e7, by omega, by omega, ⟨fun i hi => by omega, fun z k hk hq => by rw [ok0] at hq; cases hq⟩, fun i h1 h2 => by omega, fun i j h1 h2 h3 => by omega⟩, ?_, fun _ k _ => ok0 k, fun q => ?_⟩
    · rw [e8]; rfl
    · exfalso; unfold totC at q; simp only [sumZ] at q; omega
  have key : ∃ j, ∀ M6, FrB M5 M6 → (∃ g1 g2, M6 63 6 = nI g1 ∧ M6 63 7 = nI g2 ∧ BI w M6 0 0 g1 g2) → P_Laws_solve_40 post j (I (((0 : Nat) : Int) - 9)) M6 := by
    refine lpN (R := fun j ci => ∀ M6, FrB M5 M6 → (∃ g1 g2, M6 63 6 = nI g1 ∧ M6 63 7 = nI g2 ∧ BI w M6 ci 0 g1 g2) → P_Laws_solve_40 post j (I ((ci : Int) - 9)) M6) (N := 19) (fun j M6 f6 hB => ?_) (fun j ci hci ih M6 f6 hB => ?_)
    · refine ⟨fun _ M7 m7 => ?_, fun q => absurd (show (9 : Int32) < I ((19 : Nat) - 9) by decide) q⟩
      obtain ⟨g1, g2, x1, x2, ⟨n1, k1, a1, b1, c1, d1, s1⟩, ⟨n2, k2, a2, b2, c2, d2, s2⟩, ht, hz, hf⟩ := hB
      rw [totC_toA] at ht hz hf
      have o7 : ∀ c, c ≠ 63 → M7 c = M6 c := fun c hc => by rw [m7, ms_off _ _ _ hc]
      have r7 : ∀ k, k ≠ 12 → M7 63 k = M6 63 k := fun k hk => by rw [m7, ms_ne _ _ _ hk]
      refine h M7 (fun c hc => ?_) ⟨?_, fun q => ?_, ⟨n1, k1, by omega, ?_, ?_⟩, ⟨n2, k2, by omega, ?_, ?_⟩, fun s hs => Or.inl ?_⟩
      · rw [o7 c (by omega), f6.1 c (by omega) (by omega) (by omega)]; exact FL5 c hc
      · rw [r7 8 (by omega)]; exact ht
      · obtain ⟨k, q1, q2, q3, q4, q5, q6⟩ := hf q
        exact ⟨k, q1, by rw [← okP_all]; exact q2, fun j hj => by rw [← okP_all]; exact q3 j hj, by rw [r7 9 (by omega)]; exact q4, by rw [r7 10 (by omega)]; exact q5, by rw [r7 11 (by omega)]; exact q6⟩
      · rw [r7 6 (by omega)]; exact a1
      · rw [o7 65 (by omega)]; exact d1.congr (fun k _ => (okP_all k).symm)
      · rw [r7 7 (by omega)]; exact a2
      · rw [o7 66 (by omega)]; exact d2.congr (fun k _ => (okP_all k).symm)
      · rw [o7 67 (by omega), f6.1 67 (by omega) (by omega) (by omega)]; exact h67 s hs
    · refine ⟨fun q => ?_, fun _ => ?_⟩
      · rw [show (9 : Int32) = I 9 from rfl, I_lt (by omega) (by omega)] at q; omega
      have hD6 : Dk 1 M6 w := hD5.off (fun c _ _ => f6.1 c (by omega) (by omega) (by omega))
      refine s_C_solveBend hD6 hI (fun x hx => by rw [f6.1 64 (by omega) (by omega) (by omega)]; exact hP5 x hx) hci hB (fun M7 f7 hB7 => ?_)
      have e1 : I ((ci : Int) - 9) + 1 = I (((ci + 1 : Nat) : Int) - 9) := by rw [show (1 : Int32) = I 1 from rfl, I_add]; congr 1; omega
      rw [e1]
      exact ih M7 ⟨fun c h1 h2 h3 => by rw [f7.1 c h1 h2 h3, f6.1 c h1 h2 h3], by rw [f7.2, f6.2]⟩ hB7
  obtain ⟨j, hj⟩ := key
  exact ⟨j, hj M5 ⟨fun _ _ _ _ => rfl, rfl⟩ B0⟩
/-! spans measured -/
theorem htZ_bd {a b c z : Int} (ha : 0 ≤ a ∧ a ≤ 9999) (hb : -90 ≤ b ∧ b ≤ 90) (hc : -9 ≤ c ∧ c ≤ 9) (hz : -1047 ≤ z ∧ z ≤ 1047) : -200000000 ≤ htZ a b c z ∧ htZ a b c z ≤ 300000000 := by
  have := abN_bd hb hc hz
  unfold htZ; omega
def mnF (f : Nat → Int) (k0 : Int) : Nat → Int
  | 0 => k0
  | n + 1 => min (mnF f k0 n) (f n)
def mxZ (f : Nat → Int) (k0 : Int) : Nat → Int
  | 0 => k0
  | n + 1 => max (mxZ f k0 n) (f n)
theorem mnF_le {f : Nat → Int} {k0 : Int} : ∀ {n i : Nat}, i < n → mnF f k0 n ≤ f i
  | n + 1, i, h => by
    simp only [mnF]
    by_cases e : i = n
    · rw [e]; omega
    · have := mnF_le (f := f) (k0 := k0) (n := n) (i := i) (by omega); omega
theorem mnF_in {f : Nat → Int} {k0 : Int} : ∀ {n : Nat}, mnF f k0 n = k0 ∨ ∃ i, i < n ∧ mnF f k0 n = f i
  | 0 => Or.inl rfl
  | n + 1 => by
    simp only [mnF]
    rcases Int.le_total (mnF f k0 n) (f n) with h | h
    · rw [Int.min_eq_left h]
      rcases mnF_in (f := f) (k0 := k0) (n := n) with q | ⟨i, q1, q2⟩
      · exact Or.inl q
      · exact Or.inr ⟨i, by omega, q2⟩
    · rw [Int.min_eq_right h]; exact Or.inr ⟨n, by omega, rfl⟩
theorem mxZ_ge {f : Nat → Int} {k0 : Int} : ∀ {n i : Nat}, i < n → f i ≤ mxZ f k0 n
  | n + 1, i, h => by
    simp only [mxZ]
    by_cases e : i = n
    · rw [e]; omega
    · have := mxZ_ge (f := f) (k0 := k0) (n := n) (i := i) (by omega); omega
theorem mxZ_in {f : Nat → Int} {k0 : Int} : ∀ {n : Nat}, mxZ f k0 n = k0 ∨ ∃ i, i < n ∧ mxZ f k0 n = f i
  | 0 => Or.inl rfl
  | n + 1 => by
    simp only [mxZ]
    rcases Int.le_total (mxZ f k0 n) (f n) with h | h
    · rw [Int.max_eq_right h]; exact Or.inr ⟨n, by omega, rfl⟩
    · rw [Int.max_eq_left h]
      rcases mxZ_in (f := f) (k0 := k0) (n := n) with q | ⟨i, q1, q2⟩
      · exact Or.inl q
      · exact Or.inr ⟨i, by omega, q2⟩
theorem ht_wv {w : Nat → Int32} {z : Int} {k : Nat} : hK w false k z / 10000 - (w 4).toInt = wvA w z false k ∧ hK w true k z / 10000 + (w 4).toInt = wvA w z true k := by
  have e : ∀ a : Int, htZ a (kb k) (kc k) z / 10000 = a + abZ (kb k) (kc k) z := fun a => by
    unfold htZ abZ
    rw [Int.add_comm, Int.add_mul_ediv_left _ _ (by decide)]; omega
  unfold hK aK wvA
  simp only [Bool.false_eq_true, if_false, if_true]
  rw [e, e]; omega
/-- the reference's end of a span, when some law holds -/
theorem ed_spec {w : Nat → Int32} (hI : WInv w) {z : Int} (hz : -1047 ≤ z ∧ z ≤ 1047) {most : Bool} : ∀ n, n ≤ 1710 → (enF w z most n = -99999 ∧ ∀ k, k < n → okA w k = false) ∨ ((∃ k, k < n ∧ okA w k = true ∧ enF w z most n = wvA w z most k) ∧ ∀ k, k < n → okA w k = true → dmZ most (enF w z most n) (wvA w z most k))
  | 0, _ => Or.inl ⟨rfl, fun k hk => by omega⟩
  | n + 1, hn => by
    have ih := ed_spec hI hz (most := most) n (by omega)
    have hb := wvA_bd hI hz (most := most) (k := n) (by omega)
    have e : enF w z most (n + 1) = if okA w n then (if enF w z most n = -99999 then wvA w z most n else if most then max (enF w z most n) (wvA w z most n) else min (enF w z most n) (wvA w z most n)) else enF w z most n := rfl
    rw [e]
    cases hok : okA w n with
    | false =>
      simp only [Bool.false_eq_true, if_false]
      rcases ih with ⟨h1, h2⟩ | ⟨⟨k, h1, h2, h3⟩, h4⟩
      · refine Or.inl ⟨h1, fun k hk => ?_⟩
        by_cases q : k = n
        · rw [q]; exact hok
        · exact h2 k (by omega)
      · refine Or.inr ⟨⟨k, by omega, h2, h3⟩, fun k hk hk2 => ?_⟩
        by_cases q : k = n
        · rw [q, hok] at hk2; cases hk2
        · exact h4 k (by omega) hk2
    | true =>
      simp only [if_true]
      right
      rcases ih with ⟨h1, h2⟩ | ⟨⟨k, h1, h2, h3⟩, h4⟩
      · rw [if_pos h1]
        refine ⟨⟨n, by omega, hok, rfl⟩, fun k hk hk2 => ?_⟩
        by_cases q : k = n
        · rw [q]; unfold dmZ; cases most <;> simp
        · rw [h2 k (by omega)] at hk2; cases hk2
      · have hbk := wvA_bd hI hz (most := most) (k := k) (by omega)
        rw [if_neg (by omega)]
        cases most with
        | false =>
          simp only [Bool.false_eq_true, if_false]
          refine ⟨?_, fun k2 hk hk2 => ?_⟩
          · rcases Int.le_total (enF w z false n) (wvA w z false n) with q | q
            · exact ⟨k, by omega, h2, by rw [Int.min_eq_left q]; exact h3⟩
            · exact ⟨n, by omega, hok, Int.min_eq_right q⟩
          · by_cases q : k2 = n
            · rw [q]; simp only [dmZ, Bool.false_eq_true, if_false]; omega
            · have := h4 k2 (by omega) hk2
              simp only [dmZ, Bool.false_eq_true, if_false] at *; omega
        | true =>
          simp only [if_true]
          refine ⟨?_, fun k2 hk hk2 => ?_⟩
          · rcases Int.le_total (enF w z true n) (wvA w z true n) with q | q
            · exact ⟨n, by omega, hok, Int.max_eq_right q⟩
            · exact ⟨k, by omega, h2, by rw [Int.max_eq_left q]; exact h3⟩
          · by_cases q : k2 = n
            · rw [q]; simp only [dmZ, if_true]; omega
            · have := h4 k2 (by omega) hk2
              simp only [dmZ, if_true] at *; omega
theorem toA_pos {w : Nat → Int32} (hI : WInv w) {s : Int} (hs : -30 ≤ s ∧ s ≤ 30) : 0 < toA w s ↔ ∃ k, k < 1710 ∧ loA w s (kb k) (kc k) ≤ hiA w s (kb k) (kc k) := by
  have hgen : ∀ n, n ≤ 1710 → (0 < sumZ (fun k => maA w s (kb k) (kc k)) n ↔ ∃ k, k < n ∧ loA w s (kb k) (kc k) ≤ hiA w s (kb k) (kc k)) := by
    intro n
    induction n with
    | zero => intro _; simp [sumZ]
    | succ n ih =>
      intro hn
      have ih := ih (by omega)
      have hp := sumZ_bd (f := fun k => maA w s (kb k) (kc k)) (c := 10000) n (fun k hk => maA_bd hI hs (kb_bd (by omega)) (kc_bd k))
      have hm := maA_bd hI hs (kb_bd (k := n) (by omega)) (kc_bd n)
      simp only [sumZ]
      constructor
      · intro h
        by_cases hq : 0 < sumZ (fun k => maA w s (kb k) (kc k)) n
        · obtain ⟨k, k1, k2⟩ := ih.mp hq; exact ⟨k, by omega, k2⟩
        · refine ⟨n, by omega, ?_⟩
          unfold maA at *; omega
      · rintro ⟨k, k1, k2⟩
        by_cases e : k = n
        · subst e
          have : 1 ≤ maA w s (kb k) (kc k) := by unfold maA; omega
          omega
        · have := ih.mpr ⟨k, by omega, k2⟩; omega
  exact hgen 1710 (Nat.le_refl _)
/-- the least and the greatest of a hull's points are those of all laws -/
theorem low_ed {w : Nat → Int32} (hI : WInv w) {z : Int} (hz : -1047 ≤ z ∧ z ≤ 1047) {A : Nat → Int32} {n : Nat} {kk : Nat → Nat} (hH : HuK w A n kk false (okA w)) (hp : 0 < toA w 0) : mnF (fun i => hK w false (kk i) z) 1000000000 n / 10000 - (w 4).toInt = edZ w z false := by
  obtain ⟨k0, k01, k02⟩ := (toA_pos hI (by omega)).mp hp
  have k02 : okA w k0 = true := okA_iff.mpr k02
  have bd : ∀ k, k < 1710 → okA w k = true → -200000000 ≤ hK w false k z ∧ hK w false k z ≤ 300000000 := fun k hk hok => htZ_bd (aK_bd hI hk hok) (kb_bd hk) (kc_bd k) hz
  obtain ⟨i0, j1, j2⟩ := hH.2 z k0 k01 k02
  have hle := mnF_le (f := fun i => hK w false (kk i) z) (k0 := 1000000000) j1
  simp only [dmZ, Bool.false_eq_true, if_false] at j2 hle
  have b0 := bd k0 k01 k02
  rcases mnF_in (f := fun i => hK w false (kk i) z) (k0 := 1000000000) (n := n) with q | ⟨i, i1, i2⟩
  · omega
  · have hi := hH.1 i i1
    rcases ed_spec hI hz (most := false) 1710 (Nat.le_refl _) with ⟨h1, h2⟩ | ⟨⟨k, h1, h2, h3⟩, h4⟩
    · rw [h2 k0 k01] at k02; cases k02
    · simp only [dmZ, Bool.false_eq_true, if_false] at h4
      have a1 := h4 (kk i) hi.1 hi.2.1
      have hw := (ht_wv (w := w) (z := z) (k := kk i)).1
      obtain ⟨i2', p1, p2⟩ := hH.2 z k h1 h2
      simp only [dmZ, Bool.false_eq_true, if_false] at p2
      have hle2 := mnF_le (f := fun i => hK w false (kk i) z) (k0 := 1000000000) p1
      have i2 := i2
      have hwk := (ht_wv (w := w) (z := z) (k := k)).1
      unfold edZ
      rw [i2]
      have hmono : hK w false (kk i) z / 10000 ≤ hK w false k z / 10000 := Int.ediv_le_ediv (by omega) (by omega)
      omega
theorem high_ed {w : Nat → Int32} (hI : WInv w) {z : Int} (hz : -1047 ≤ z ∧ z ≤ 1047) {A : Nat → Int32} {n : Nat} {kk : Nat → Nat} (hH : HuK w A n kk true (okA w)) (hp : 0 < toA w 0) : mxZ (fun i => hK w true (kk i) z) (-1000000000) n / 10000 + (w 4).toInt = edZ w z true := by
  obtain ⟨k0, k01, k02⟩ := (toA_pos hI (by omega)).mp hp
  have k02 : okA w k0 = true := okA_iff.mpr k02
  have bd : ∀ k, k < 1710 → okA w k = true → -200000000 ≤ hK w true k z ∧ hK w true k z ≤ 300000000 := fun k hk hok => htZ_bd (aK_bd hI hk hok) (kb_bd hk) (kc_bd k) hz
  obtain ⟨i0, j1, j2⟩ := hH.2 z k0 k01 k02
  have hle := mxZ_ge (f := fun i => hK w true (kk i) z) (k0 := -1000000000) j1
  simp only [dmZ, if_true] at j2 hle
  have b0 := bd k0 k01 k02
  rcases mxZ_in (f := fun i => hK w true (kk i) z) (k0 := -1000000000) (n := n) with q | ⟨i, i1, i2⟩
  · omega
  · have hi := hH.1 i i1
    rcases ed_spec hI hz (most := true) 1710 (Nat.le_refl _) with ⟨h1, h2⟩ | ⟨⟨k, h1, h2, h3⟩, h4⟩
    · rw [h2 k0 k01] at k02; cases k02
    · simp only [dmZ, if_true] at h4
      have a1 := h4 (kk i) hi.1 hi.2.1
      have hw := (ht_wv (w := w) (z := z) (k := kk i)).2
      obtain ⟨i2', p1, p2⟩ := hH.2 z k h1 h2
      simp only [dmZ, if_true] at p2
      have hle2 := mxZ_ge (f := fun i => hK w true (kk i) z) (k0 := -1000000000) p1
      have i2 := i2
      have hwk := (ht_wv (w := w) (z := z) (k := k)).2
      unfold edZ
      rw [i2]
      have hmono : hK w true k z / 10000 ≤ hK w true (kk i) z / 10000 := Int.ediv_le_ediv (by omega) (by omega)
      omega
theorem s_C_measure {post : Mem → Prop} {w : Nat → Int32} {z : Int} {s : Nat} {M : Mem} (hD : Dk 1 M w) (hI : WInv w) (hL : LwOK M w) (hp : 0 < toA w 0) (hz : -1047 ≤ z ∧ z ≤ 1047) (hs : s < 1087)
    (h : ∀ M', (∀ c, c ≠ 67 → c ≠ 68 → M' c = M c) → M' 67 = upd (M 67) s (I (edZ w z false)) → M' 68 = upd (M 68) s (I (edZ w z true)) → post M') : P_Laws_measure post (I z) (nI s) M := by
  obtain ⟨ht, hf, ⟨n1, k1, c1, e6, d1⟩, ⟨n2, k2, c2, e7, d2⟩, hsp⟩ := hL
  have her := hI.er
  unfold rg at her
  have bd : ∀ most k, k < 1710 → okA w k = true → -200000000 ≤ hK w most k z ∧ hK w most k z ≤ 300000000 := fun most k hk hok => htZ_bd (aK_bd hI hk hok) (kb_bd hk) (kc_bd k) hz
  have b1 : ∀ i, i ≤ n1 → -200000000 ≤ mnF (fun i => hK w false (k1 i) z) 1000000000 i ∧ mnF (fun i => hK w false (k1 i) z) 1000000000 i ≤ 1000000000 := by
    intro i
    induction i with
    | zero => intro _; simp [mnF]
    | succ i ih => intro hi; have := ih (by omega); have h5 := d1.1 i (by omega); have := bd false _ h5.1 h5.2.1; simp only [mnF]; omega
  have b2 : ∀ i, i ≤ n2 → -1000000000 ≤ mxZ (fun i => hK w true (k2 i) z) (-1000000000) i ∧ mxZ (fun i => hK w true (k2 i) z) (-1000000000) i ≤ 300000000 := by
    intro i
    induction i with
    | zero => intro _; simp [mxZ]
    | succ i ih => intro hi; have := ih (by omega); have h5 := d2.1 i (by omega); have := bd true _ h5.1 h5.2.1; simp only [mxZ]; omega
  have low := low_ed hI hz d1 hp
  have high := high_ed hI hz d2 hp
  refine lpN (R := fun j i => P_Laws_measure_6 post j (I z) (nI s) (I (mnF (fun i => hK w false (k1 i) z) 1000000000 i)) (nI i) M) (N := n1) (fun j => ?_) (fun j i hi ih => ?_)
  · refine brSt e6 ?_
    refine lpN (R := fun j i => P_Laws_measure_44 post j (I z) (nI s) (I (mnF (fun i => hK w false (k1 i) z) 1000000000 n1)) (I (mxZ (fun i => hK w true (k2 i) z) (-1000000000) i)) (nI i) M) (N := n2) (fun q => ?_) (fun q i hi ih => ?_)
    · have q1 := b1 n1 (Nat.le_refl _)
      have q2 := b2 n2 (Nat.le_refl _)
      refine brSt e7 (s_floorDiv (by decide) ⟨vin_nI hs (by omega), fun M2 m2 => s_floorDiv (by decide) ⟨vin_nI hs (by omega), fun M4 m4 => ?_⟩⟩)
      have a1 : I ((I (mnF (fun i => hK w false (k1 i) z) 1000000000 n1)).toInt / (10000 : Int32).toInt) - M 8 5 = I (edZ w z false) := by
        rw [I_toInt (by omega) (by omega), hD.err, I_ofS (w 4), I_sub]
        rw [show (10000 : Int32).toInt = 10000 from rfl, low]
      rw [nI_clamp (by omega), a1] at m2
      have he2 : M2 8 5 = w 4 := by rw [m2, ms_off _ _ _ (by omega)]; exact hD.err
      have a2 : I ((I (mxZ (fun i => hK w true (k2 i) z) (-1000000000) n2)).toInt / (10000 : Int32).toInt) + M2 8 5 = I (edZ w z true) := by
        rw [I_toInt (by omega) (by omega), he2, I_ofS (w 4), I_add]
        rw [show (10000 : Int32).toInt = 10000 from rfl, high]
      rw [nI_clamp (by omega), a2] at m4
      refine h M4 (fun c h1 h2 => by rw [m4, ms_off _ _ _ h2, m2, ms_off _ _ _ h1]) ?_ ?_
      · rw [m4, ms_off _ _ _ (by omega), m2, ms_row]
      · rw [m4, ms_row, m2, ms_off _ _ _ (by omega)]
    · have hi2 := d2.1 i hi
      have hbb := kb_bd hi2.1
      have hb1 : 0 ≤ kb (k2 i) := by unfold kb; omega
      refine brGo e7 (by omega) hi ⟨vin_nI (by omega) (by omega), ?_⟩
      rw [nI_clamp (by omega), hi2.2.2]
      refine s_C_height (aK_bd hI hi2.1 hi2.2.1) (by omega) (kc_bd _) (s_max ?_)
      have q1 := b2 i (by omega)
      have q2 := bd true _ hi2.1 hi2.2.1
      unfold hK at q2
      rw [I_max (by omega) (by omega), nI_1]
      exact ih
  · have hi2 := d1.1 i hi
    have hbb := kb_bd hi2.1
    have hb1 : 0 ≤ kb (k1 i) := by unfold kb; omega
    refine brGo e6 (by omega) hi ⟨vin_nI (by omega) (by omega), ?_⟩
    rw [nI_clamp (by omega), hi2.2.2]
    refine s_C_height (aK_bd hI hi2.1 hi2.2.1) (by omega) (kc_bd _) (s_min ?_)
    have q1 := b1 i (by omega)
    have q2 := bd false _ hi2.1 hi2.2.1
    unfold hK at q2
    rw [I_min (by omega) (by omega), nI_1]
    exact ih
theorem LwOK.sp {M M' : Mem} {w : Nat → Int32} (h : LwOK M w) (h63 : M' 63 = M 63) (h65 : M' 65 = M 65) (h66 : M' 66 = M 66) (hsp : ∀ s, s < 1087 → M' 67 s = -1000000 ∨ (M' 67 s = I (edZ w ((s : Int) - 39) false) ∧ M' 68 s = I (edZ w ((s : Int) - 39) true))) : LwOK M' w := by
  obtain ⟨ht, hf, h1, h2, _⟩ := h
  refine ⟨by rw [h63]; exact ht, ?_, ?_, ?_, hsp⟩
  · rw [h63]; exact hf
  · rw [h63, h65]; exact h1
  · rw [h63, h66]; exact h2
/-- where a span stands -/
theorem s_C_slotOf {post : Int32 → Mem → Prop} {w : Nat → Int32} {z : Int} {M : Mem} (hD : Dk 1 M w) (hI : WInv w) (hL : LwOK M w) (hz : -39 ≤ z ∧ z ≤ 1047)
    (h0 : toA w 0 = 0 → post (-1) M) (h1 : 0 < toA w 0 → ∀ M' s, FrL M M' → LwOK M' w → s < 1087 → M' 67 s = I (edZ w z false) → M' 68 s = I (edZ w z true) → M' 63 = M 63 → post (nI s) M') : P_Laws_slotOf post (I z) M := by
  intro x2 e2
  have htb := toA_bd hI (s := 0) (by omega)
  have e2 : x2 = nI (z + 39).toNat := by rw [e2, show (-39 : Int32) = I (-39) from rfl, I_sub, nI_I]; congr 1; omega
  have hs : (z + 39).toNat < 1087 := by omega
  have hzs : ((z + 39).toNat : Int) - 39 = z := by omega
  rw [hL.1, show (0 : Int32) = I 0 from rfl, I_eq (by omega) (by omega), ← I_0]
  generalize (z + 39).toNat = s at *
  rw [e2]
  refine ⟨fun q => h0 q, fun q => ⟨fun c => ?_, fun _ => ⟨fun _ => ⟨vin_nI hs (by omega), fun c => ?_, fun c => ?_⟩, fun c => absurd ?_ c⟩⟩⟩
  · exfalso; rw [ltI, nI_toI (by omega)] at c; have : (0 : Int32).toInt = 0 := rfl; omega
  · rw [nI_clamp (by omega)] at c
    have hh := (hL.2.2.2.2 s hs).resolve_left c
    rw [hzs] at hh
    exact h1 (by omega) M s (FrL.refl M) hL hs hh.1 hh.2 rfl
  · refine s_C_measure hD hI hL (by omega) (by omega) hs (fun M2 a1 a2 a3 => ?_)
    refine h1 (by omega) M2 s (fun c hc => a1 c (by omega) (by omega)) (hL.sp (a1 63 (by omega) (by omega)) (a1 65 (by omega) (by omega)) (a1 66 (by omega) (by omega)) (fun j hj => ?_)) hs (by rw [a2, upd_eq]) (by rw [a3, upd_eq]) (a1 63 (by omega) (by omega))
    rw [a2, a3]
    by_cases e : j = s
    · right; rw [e, upd_eq, upd_eq, hzs]; exact ⟨rfl, rfl⟩
    · rw [upd_ne _ _ e, upd_ne _ _ e]; exact hL.2.2.2.2 j hj
  · rw [ltI, nI_toI (by omega)]; have : (1087 : Int32).toInt = 1087 := rfl; omega
theorem ed_none {w : Nat → Int32} (hI : WInv w) {z : Int} (hz : -1047 ≤ z ∧ z ≤ 1047) {most : Bool} (h : toA w 0 = 0) : edZ w z most = -99999 := by
  rcases ed_spec hI hz (most := most) 1710 (Nat.le_refl _) with ⟨h1, _⟩ | ⟨⟨k, h1, h2, _⟩, _⟩
  · exact h1
  · have := (toA_pos hI (s := 0) (by omega)).mpr ⟨k, h1, okA_iff.mp h2⟩; omega
theorem s_C_spanEnd {post : Int32 → Mem → Prop} {w : Nat → Int32} {z : Int} {most : Bool} {M : Mem} (hD : Dk 1 M w) (hI : WInv w) (hL : Lw M w) (hz : -39 ≤ z ∧ z ≤ 1047) (h : ∀ M', FrL M M' → Lw M' w → post (I (edZ w z most)) M') : P_R_spanEnd post (I z) (bi most) M := by
  refine s_C_solve hD hI hL (fun M1 f1 hL1 => s_C_slotOf (f1.dk hD) hI hL1 hz (fun h0 => ?_) (fun hp M2 s f2 hL2 hs a1 a2 _ => ?_))
  · refine ⟨fun q => absurd rfl q, fun _ => ?_⟩
    have := h M1 f1 (Or.inr hL1)
    rw [ed_none hI (by omega) h0] at this
    exact this
  · have h := h M2 (f1.trans f2) (Or.inr hL2)
    refine ⟨fun _ => b0n (fun c => ⟨vin_nI hs (by omega), ?_⟩) (fun c => ⟨vin_nI hs (by omega), ?_⟩), fun q => ?_⟩
    · rw [nI_clamp (by omega), a1]; rw [c] at h; exact h
    · rw [nI_clamp (by omega), a2]; rw [c] at h; exact h
    · exfalso; rw [eqI, nI_toI (by omega)] at q; have : (-1 : Int32).toInt = -1 := rfl; omega
theorem s_R_laws {post : Int32 → Mem → Prop} {w : Nat → Int32} {M : Mem} (hD : Dk 1 M w) (hI : WInv w) (hL : Lw M w) (h : ∀ M', FrQ M M' → Lw M' w → post (I (toA w 0)) M') : P_R_laws post M :=
  s_C_solve hD hI hL (fun M1 f1 hL1 => by have := h M1 f1.q (Or.inr hL1); rw [← hL1.1] at this; exact this)
theorem lwF_none {w : Nat → Int32} {what : Int32} : ∀ d, d ≤ 1710 → (∀ k, 1710 - d ≤ k → k < 1710 → okA w k = false) → lwF w what d = 99999
  | 0, _, _ => rfl
  | d + 1, hd, h => by
    unfold lwF
    rw [h (1710 - (d + 1)) (by omega) (by omega)]
    exact lwF_none d (by omega) (fun k h1 h2 => h k (by omega) h2)
theorem lwF_some {w : Nat → Int32} {what : Int32} {k : Nat} (hk : k < 1710) (hok : okA w k = true) : ∀ d, d ≤ 1710 → 1710 - d ≤ k → (∀ j, 1710 - d ≤ j → j < k → okA w j = false) → lwF w what d = (if what = 0 then I (loA w 0 (kb k) (kc k)) else if what = 1 then I (kb k) else I (kc k))
  | 0, _, h, _ => by omega
  | d + 1, hd, h, hmin => by
    unfold lwF
    by_cases e : 1710 - (d + 1) = k
    · rw [e, hok]; rfl
    · rw [hmin (1710 - (d + 1)) (by omega) (by omega)]
      exact lwF_some hk hok d (by omega) (by omega) (fun j h1 h2 => hmin j (by omega) h2)
theorem s_R_law {post : Int32 → Mem → Prop} {ex : String → Mem → Prop} {w : Nat → Int32} {what : Int32} {M : Mem} (hD : Dk 1 M w) (hI : WInv w) (hL : Lw M w) (h : QX post ex M w [NSE] (if inb what 0 2 then qi 0 (lwF w what 1710) else qi 1 0)) : P_R_law post ex what M := by
  have htb := toA_bd hI (s := 0) (by omega)
  refine s_R_within (s_want (fun c => s_C_solve hD hI hL (fun M1 f1 hL1 => ?_)) (fun c => ?_))
  · rw [c] at h
    have h := h.go f1.q (Or.inr hL1)
    obtain ⟨ht, hf, _⟩ := hL1
    rw [ht, show (0 : Int32) = I 0 from rfl, I_eq (by omega) (by omega)]
    refine ⟨fun q => ?_, fun q => ?_⟩
    · obtain ⟨k, q1, q2, q3, q4, q5, q6⟩ := hf (by omega)
      rw [lwF_some q1 q2 1710 (Nat.le_refl _) (by omega) (fun j _ hj => q3 j hj)] at h
      rw [q4, q5, q6, ← I_0]
      refine ⟨fun c0 => ⟨fun c1 => ?_, fun c1 => ?_⟩, fun c0 => ?_⟩
      · rw [if_neg c0, if_neg c1] at h; exact h
      · rw [if_neg c0, if_pos c1] at h; exact h
      · rw [if_pos c0] at h; exact h
    · rw [lwF_none 1710 (Nat.le_refl _) (fun k _ hk => ?_)] at h
      · exact h
      · cases hq : okA w k with
        | false => rfl
        | true => have := (toA_pos hI (s := 0) (by omega)).mpr ⟨k, hk, okA_iff.mp hq⟩; omega
  · rw [c] at h; exact h.bad1
theorem s_R_span {post : Int32 → Mem → Prop} {ex : String → Mem → Prop} {w : Nat → Int32} {p : Int32} {dn most : Bool} {M : Mem} (hD : Dk 1 M w) (hI : WInv w) (hL : Lw M w) (h : QX post ex M w [IAE] (if inb p 0 999 then qi 0 (I (edZ w (tpl w p (bi dn)).toInt most)) else qi 1 0)) : P_R_span post ex p (bi dn) (bi most) M := by
  refine s_R_within (s_want (fun c => s_C_truePlace hD hI (bi_01 _) ?_) (fun c => ?_))
  · have hpr : rg p 0 999 := by
      simp only [inb, decide_eq_true_eq, leI] at c
      have e0 : (0 : Int32).toInt = 0 := rfl
      have e1 : (999 : Int32).toInt = 999 := rfl
      unfold rg; omega
    have htp := hI.tp (d := bi dn) hpr
    unfold rg at htp
    rw [I_ofS (tpl w p (bi dn))]
    refine s_C_spanEnd hD hI hL (by omega) (fun M1 f1 hL1 => ?_)
    rw [c] at h
    exact h.go f1.q hL1
  · rw [c] at h; exact h.bad1
/-! the spark that slipped -/
def owZ (n : Nat) : Int := if n % 2 = 1 then -(((n + 1) / 2 : Nat) : Int) else (((n + 1) / 2 : Nat) : Int)
theorem s_C_outward {post : Int32 → Mem → Prop} {n : Nat} {M : Mem} (hn : n < 1000) (h : post (I (owZ n)) M) : P_R_outward post (nI n) M := by
  unfold owZ at h
  intro x1 e1
  have ex : x1 = nI ((n + 1) / 2) := by rw [e1, nI_1, lit_nI 2, nI_div (by omega) (by omega) (by omega)]
  have er : irm (nI n) 2 = nI (n % 2) := by rw [lit_nI 2, nI_I, nI_I, I_rem (by omega) (by omega), nI_I]; rfl
  rw [er, ex, show (1 : Int32) = nI 1 from rfl, nI_eq (by omega) (by omega)]
  refine ⟨fun c => ?_, fun c => ?_⟩
  · rw [if_neg c] at h; rw [nI_I]; exact h
  · rw [if_pos c] at h; rw [nI_I, I_neg]; exact h
/-- only places and the two numbers of a try have changed -/
def FrH (M M' : Mem) : Prop := (∀ c, c ≠ 63 → c ≠ 64 → M' c = M c) ∧ ∀ k, k ≠ 13 → k ≠ 14 → M' 63 k = M 63 k
theorem FrH.lw {M M' : Mem} {w : Nat → Int32} (h : FrH M M') (hL : Lw M w) : Lw M' w := by
  rcases hL with hL | ⟨ht, hf, ⟨n1, k1, c1, e6, d1⟩, ⟨n2, k2, c2, e7, d2⟩, hsp⟩
  · left; rw [h.2 12 (by omega) (by omega)]; exact hL
  · right
    refine ⟨by rw [h.2 8 (by omega) (by omega)]; exact ht, fun q => ?_, ⟨n1, k1, c1, by rw [h.2 6 (by omega) (by omega)]; exact e6, by rw [h.1 65 (by omega) (by omega)]; exact d1⟩, ⟨n2, k2, c2, by rw [h.2 7 (by omega) (by omega)]; exact e7, by rw [h.1 66 (by omega) (by omega)]; exact d2⟩, ?_⟩
    · obtain ⟨k, q1, q2, q3, q4, q5, q6⟩ := hf q
      exact ⟨k, q1, q2, q3, by rw [h.2 9 (by omega) (by omega)]; exact q4, by rw [h.2 10 (by omega) (by omega)]; exact q5, by rw [h.2 11 (by omega) (by omega)]; exact q6⟩
    · rw [h.1 67 (by omega) (by omega), h.1 68 (by omega) (by omega)]; exact hsp
theorem s_C_someHolds {post : Int32 → Mem → Prop} {w : Nat → Int32} {s : Int} {M : Mem} (hD : Dk 1 M w) (hI : WInv w) (hs : -30 ≤ s ∧ s ≤ 30) (h : ∀ M', FrH M M' → post (bi (decide (0 < toA w s))) M') : P_Laws_someHolds post (I s) M := by
  refine s_C_putPlaces hD hI (fun M1 a1 a2 => ?_)
  have F1 : FrH M M1 := ⟨fun c _ h2 => a1 c h2, fun k _ _ => by rw [a1 63 (by omega)]⟩
  have key : ∃ j, (∀ k, k < 19 * 0 → ¬ loA w s (kb k) (kc k) ≤ hiA w s (kb k) (kc k)) → ∀ M2, FrH M M2 → PlOK M2 w s → P_Laws_someHolds_7 post j (nI (0 + 1)) M2 := by
    refine lpN (R := fun j bi => (∀ k, k < 19 * bi → ¬ loA w s (kb k) (kc k) ≤ hiA w s (kb k) (kc k)) → ∀ M2, FrH M M2 → PlOK M2 w s → P_Laws_someHolds_7 post j (nI (bi + 1)) M2) (N := 90) (fun j hno M2 f2 p2 => ?_) (fun j bi hbi ih hno M2 f2 p2 => ?_)
    · refine ⟨fun _ => ?_, fun q => absurd (show (90 : Int32) < nI (90 + 1) by decide) q⟩
      have := h M2 f2
      rw [decide_eq_false (fun q => by obtain ⟨k, k1, k2⟩ := (toA_pos hI hs).mp q; exact hno k (by omega) k2)] at this
      exact this
    · refine ⟨fun q => ?_, fun _ => ?_⟩
      · rw [show (90 : Int32) = nI 90 from rfl, ltI, nI_toI (by omega), nI_toI (by omega)] at q; omega
      have ebi : nI (bi + 1) = I ((bi : Int) + 1) := by rw [nI_I]; congr 1
      have inner : ∃ q, (∀ k, k < 19 * bi + 0 → ¬ loA w s (kb k) (kc k) ≤ hiA w s (kb k) (kc k)) → ∀ M3, FrH M M3 → PlOK M3 w s → P_Laws_someHolds_16 post (P_Laws_someHolds_7 post j) q (nI (bi + 1)) (I (((0 : Nat) : Int) - 9)) M3 := by
        refine lpN (R := fun q ci => (∀ k, k < 19 * bi + ci → ¬ loA w s (kb k) (kc k) ≤ hiA w s (kb k) (kc k)) → ∀ M3, FrH M M3 → PlOK M3 w s → P_Laws_someHolds_16 post (P_Laws_someHolds_7 post j) q (nI (bi + 1)) (I ((ci : Int) - 9)) M3) (N := 19) (fun q hno M3 f3 p3 => ?_) (fun q ci hci ih2 hno M3 f3 p3 => ?_)
        · refine ⟨fun _ => ?_, fun q => absurd (show (9 : Int32) < I ((19 : Nat) - 9) by decide) q⟩
          rw [nI_1]
          exact ih (fun k hk => hno k (by omega)) M3 f3 p3
        · refine ⟨fun q => ?_, fun _ => ?_⟩
          · rw [show (9 : Int32) = I 9 from rfl, I_lt (by omega) (by omega)] at q; omega
          have hD3 : Dk 1 M3 w := hD.off (fun c _ _ => f3.1 c (by omega) (by omega))
          obtain ⟨hkb, hkc⟩ := kb_of (bi := bi) hci
          have e1 : I ((ci : Int) - 9) + 1 = I (((ci + 1 : Nat) : Int) - 9) := by rw [show (1 : Int32) = I 1 from rfl, I_add]; congr 1; omega
          rw [ebi]
          refine s_C_meetsAll hD3 hI hs p3 (by omega) (by omega) (fun hok M4 f4 _ _ => ?_) (fun hok M4 f4 => ?_)
          · have F4 : FrH M M4 := ⟨fun c h1 h2 => by rw [f4.1 c h1, f3.1 c h1 h2], fun k h1 h2 => by rw [f4.2 k h1 h2, f3.2 k h1 h2]⟩
            have := h M4 F4
            rw [decide_eq_true ((toA_pos hI hs).mpr ⟨19 * bi + ci, by omega, by rw [hkb, hkc]; exact hok⟩)] at this
            exact ⟨fun q => absurd q (by decide), fun _ => this⟩
          · have F4 : FrH M M4 := ⟨fun c h1 h2 => by rw [f4.1 c h1, f3.1 c h1 h2], fun k h1 h2 => by rw [f4.2 k h1 h2, f3.2 k h1 h2]⟩
            refine ⟨fun _ => ?_, fun q => absurd (by decide) q⟩
            rw [e1, ← ebi]
            refine ih2 (fun k hk => ?_) M4 F4 (fun x hx => by rw [f4.1 64 (by omega)]; exact p3 x hx)
            by_cases e : k = 19 * bi + ci
            · rw [e, hkb, hkc]; exact hok
            · exact hno k (by omega)
      obtain ⟨q, hq⟩ := inner
      exact ⟨q, hq (fun k hk => hno k (by omega)) M2 f2 p2⟩
  obtain ⟨j, hj⟩ := key
  exact ⟨j, hj (fun k hk => by omega) M1 F1 a2⟩
theorem slF_ow {w : Nat → Int32} : frF (fun n k => if 0 < toA w (owZ n) then I (owZ n) else k) 99 61 0 = slF w 31 := by
  have key : ∀ d f : Nat, f + d = 31 → 1 ≤ f → frF (fun n k => if 0 < toA w (owZ n) then I (owZ n) else k) 99 (61 - (2 * f - 1)) (2 * f - 1) = slF w d := by
    intro d
    induction d with
    | zero => intro f hf _; rw [show f = 31 by omega]; rfl
    | succ d ih =>
      intro f hf h1
      have ih := ih (f + 1) (by omega) (by omega)
      rw [show 2 * (f + 1) - 1 = 2 * f + 1 by omega] at ih
      have e1 : owZ (2 * f - 1) = -(f : Int) := by unfold owZ; rw [if_pos (by omega), show (2 * f - 1 + 1) / 2 = f by omega]
      have e2 : owZ (2 * f) = (f : Int) := by unfold owZ; rw [if_neg (by omega), show (2 * f + 1) / 2 = f by omega]
      have ef : (31 - ((d : Int) + 1)) = f := by omega
      rw [frF_step (by omega), show 2 * f - 1 + 1 = 2 * f by omega, frF_step (by omega), ih]
      simp only [slF, ef, e1, e2]
  have h1 := key 30 1 (by omega) (by omega)
  rw [frF_step (N := 61) (x := 0) (by omega)]
  have e0 : owZ 0 = 0 := by decide
  have h1 : frF (fun n k => if 0 < toA w (owZ n) then I (owZ n) else k) 99 (61 - (0 + 1)) (0 + 1) = slF w 30 := h1
  rw [h1]
  have es : slF w 31 = if 0 < toA w (-(31 - ((30 : Nat) + 1 : Int))) then I (-(31 - ((30 : Nat) + 1 : Int))) else if 0 < toA w (31 - ((30 : Nat) + 1 : Int)) then I (31 - ((30 : Nat) + 1 : Int)) else slF w 30 := rfl
  rw [es, show (-(31 - ((30 : Nat) + 1 : Int))) = 0 by decide, show (31 - ((30 : Nat) + 1 : Int)) = 0 by decide, e0]
  by_cases q : 0 < toA w 0
  · rw [if_pos q, if_pos q]
  · rw [if_neg q, if_neg q]
theorem s_R_slipped {post : Int32 → Mem → Prop} {w : Nat → Int32} {M : Mem} (hD : Dk 1 M w) (hI : WInv w) (hL : Lw M w) (h : ∀ M', FrQ M M' → Lw M' w → post (slF w 31) M') : P_R_slipped post M := by
  rw [← slF_ow] at h
  generalize hg : (fun n k => if 0 < toA w (owZ n) then I (owZ n) else k) = g at h
  have hgs : ∀ n k, g n k = if 0 < toA w (owZ n) then I (owZ n) else k := fun n k => by rw [← hg]
  generalize hr : frF g 99 61 0 = res at h
  have key : ∃ j, frF g 99 (61 - 0) 0 = res → ∀ M1, FrH M M1 → P_R_slipped_2 post j (nI 0) M1 := by
    refine lpN (R := fun j n => frF g 99 (61 - n) n = res → ∀ M1, FrH M M1 → P_R_slipped_2 post j (nI n) M1) (N := 61) (fun j hr M1 f1 => ?_) (fun j n hn ih hr M1 f1 => ?_)
    · refine ⟨fun _ => ?_, fun q => absurd (show (60 : Int32) < nI 61 by decide) q⟩
      have := h M1 (fun c hc => f1.1 c (by omega) (by omega)) (f1.lw hL)
      rw [← hr] at this; exact this
    · refine ⟨fun q => ?_, fun _ => s_C_outward (by omega) ?_⟩
      · rw [show (60 : Int32) = nI 60 from rfl, ltI, nI_toI (by omega), nI_toI (by omega)] at q; omega
      have hD1 : Dk 1 M1 w := hD.off (fun c _ _ => f1.1 c (by omega) (by omega))
      have hob : -30 ≤ owZ n ∧ owZ n ≤ 30 := by unfold owZ; split <;> omega
      rw [frF_step hn, hgs] at hr
      refine s_C_someHolds hD1 hI hob (fun M2 f2 => ?_)
      have F2 : FrH M M2 := ⟨fun c h1 h2 => by rw [f2.1 c h1 h2, f1.1 c h1 h2], fun k h1 h2 => by rw [f2.2 k h1 h2, f1.2 k h1 h2]⟩
      refine b0n (fun c => ?_) (fun c => s_C_outward (by omega) ?_)
      · rw [if_neg (by simpa using c)] at hr
        rw [nI_1]; exact ih hr M2 F2
      · rw [if_pos (by simpa using c)] at hr
        rw [hr]
        exact h M2 (fun c hc => F2.1 c (by omega) (by omega)) (F2.lw hL)
  obtain ⟨j, hj⟩ := key
  exact ⟨j, hj hr M ⟨fun _ _ _ => rfl, fun _ _ _ => rfl⟩⟩
