/-! THE CLASS: laws solved -/
def PlOK (M : Mem) (w : Nat → Int32) (s : Int) : Prop := ∀ x, x < nn (w 6) → M 64 x = I (knZ w s x)
def FrA (M M' : Mem) : Prop := (∀ c, c ≠ 63 → M' c = M c) ∧ ∀ k, k ≠ 13 → k ≠ 14 → M' 63 k = M 63 k
theorem FrA.put {M M' : Mem} (h : FrA M M') {k : Nat} (hk : k = 13 ∨ k = 14) (v : Int32) : FrA M (ms M' 63 k v) := by
  refine ⟨fun c hc => by rw [ms_off _ _ _ hc, h.1 c hc], fun j h1 h2 => ?_⟩
  rw [ms_ne _ _ _ (by omega), h.2 j h1 h2]
theorem loF_mono {w : Nat → Int32} {s b c : Int} {x : Nat} : ∀ d, loF w s b c x ≤ loF w s b c (x + d)
  | 0 => Int.le_refl _
  | d + 1 => by have h := loF_mono (w := w) (s := s) (b := b) (c := c) (x := x) d; rw [← Nat.add_assoc]; simp only [loF]; omega
theorem hiF_mono {w : Nat → Int32} {s b c : Int} {x : Nat} : ∀ d, hiF w s b c (x + d) ≤ hiF w s b c x
  | 0 => Int.le_refl _
  | d + 1 => by have h := hiF_mono (w := w) (s := s) (b := b) (c := c) (x := x) d; rw [← Nat.add_assoc]; simp only [hiF]; omega
theorem s_C_meetsAll {post : Int32 → Mem → Prop} {w : Nat → Int32} {s b c : Int} {M : Mem} (hD : Dk 1 M w) (hI : WInv w) (hs : -30 ≤ s ∧ s ≤ 30) (hP : PlOK M w s) (hb : -90 ≤ b ∧ b ≤ 90) (hc : -9 ≤ c ∧ c ≤ 9)
    (h1 : loA w s b c ≤ hiA w s b c → ∀ M', FrA M M' → M' 63 13 = I (loA w s b c) → M' 63 14 = I (hiA w s b c) → post 1 M') (h0 : ¬ loA w s b c ≤ hiA w s b c → ∀ M', FrA M M' → post 0 M') : P_Laws_meetsAll post (I b) (I c) M := by
  obtain ⟨hn, hn10⟩ := hI.nk
  have her := hI.er
  unfold rg at her
  intro M1 m1 M2 m2
  have key : ∃ j, ∀ M3, FrA M M3 → M3 63 13 = I (loF w s b c 0) → M3 63 14 = I (hiF w s b c 0) → P_Laws_meetsAll_23 post j (I b) (I c) (nI 0) M3 := by
    refine lpN (R := fun j x => ∀ M3, FrA M M3 → M3 63 13 = I (loF w s b c x) → M3 63 14 = I (hiF w s b c x) → P_Laws_meetsAll_23 post j (I b) (I c) (nI x) M3) (N := nn (w 6)) (fun j M3 hF e13 e14 => ?_) (fun j x hx ih M3 hF e13 e14 => ?_)
    · have hD3 : M3 8 4 = w 6 := by rw [hF.1 8 (by omega)]; exact hD.nk
      refine brSt (by rw [hD3]; exact hn) ?_
      have b1 := loF_bd hI hs hb hc (nn (w 6)) hn10
      have b2 := hiF_bd hI hs hb hc (nn (w 6)) hn10
      unfold P_Laws_meetsAll_132
      rw [e13, e14, I_lt (by omega) (by omega)]
      refine ⟨fun q => ⟨Or.inl rfl, h0 (by unfold loA hiA; omega) M3 hF⟩, fun q => ⟨Or.inr rfl, h1 (by unfold loA hiA; omega) M3 hF e13 e14⟩⟩
    · have hx10 : x < 10 := by omega
      have hD3 : M3 8 4 = w 6 := by rw [hF.1 8 (by omega)]; exact hD.nk
      have b1 := loF_bd hI hs hb hc x (by omega)
      have b2 := hiF_bd hI hs hb hc x (by omega)
      refine brGo (by rw [hD3]; exact hn) (by omega) hx ?_
      rw [e13, e14, I_lt (by omega) (by omega)]
      refine ⟨fun q => ?_, fun q => ?_⟩
      · unfold P_Laws_meetsAll_132
        rw [e13, e14, I_lt (by omega) (by omega)]
        have m1 := loF_mono (w := w) (s := s) (b := b) (c := c) (x := x) (nn (w 6) - x)
        have m2 := hiF_mono (w := w) (s := s) (b := b) (c := c) (x := x) (nn (w 6) - x)
        rw [show x + (nn (w 6) - x) = nn (w 6) by omega] at m1 m2
        exact ⟨fun _ => ⟨Or.inl rfl, h0 (by unfold loA hiA; omega) M3 hF⟩, fun q2 => absurd q q2⟩
      · have hz := knZ_bd hI hs hx10
        have hN := abN_bd (b := b) (c := c) (z := knZ w s x) hb hc (by omega)
        have hrs := rsZ_bd hI hs hb hc hx10
        rw [nI_clamp (by omega), hF.1 64 (by omega), hP x hx]
        refine ⟨vin_nI (by omega) (by omega), vin_nI (by omega) (by omega), fun v1 e1 => s_floorDiv (by decide) ⟨vin_nI (by omega) (by omega), s_max (fun M4 m4 => ⟨vin_nI (by omega) (by omega), s_min (fun M6 m6 => ?_)⟩)⟩⟩
        have ev : v1 = I (abN b c (knZ w s x)) := by
          rw [e1, show (1000 : Int32) = I 1000 from rfl, I_mul, I_mul, I_add, I_mul]
          unfold abN; rw [Int.add_mul]
        have er : I (v1.toInt / (10000 : Int32).toInt) = I (abZ b c (knZ w s x)) := by rw [ev, I_toInt (by omega) (by omega)]; rfl
        have hw : M3 11 x = I (w (54 + 4 * x)).toInt := by rw [hF.1 11 (by omega), hD.kw hx10]; exact I_ofS _
        have he : M3 8 5 = I (w 4).toInt := by rw [hF.1 8 (by omega), hD.err]; exact I_ofS _
        have a1 : M3 11 x - I (v1.toInt / (10000 : Int32).toInt) - M3 8 5 = I (rsZ w s b c x - (w 4).toInt) := by
          rw [er, hw, he, I_sub, I_sub]; rfl
        rw [e13, a1, I_max (by omega) (by omega)] at m4
        have f4 : FrA M M4 := by rw [m4]; exact hF.put (Or.inl rfl) _
        have e4 : M4 63 14 = I (hiF w s b c x) := by rw [m4, ms_ne _ _ _ (by omega)]; exact e14
        have hw4 : M4 11 x = I (w (54 + 4 * x)).toInt := by rw [f4.1 11 (by omega), hD.kw hx10]; exact I_ofS _
        have he4 : M4 8 5 = I (w 4).toInt := by rw [f4.1 8 (by omega), hD.err]; exact I_ofS _
        have a2 : M4 11 x - I (v1.toInt / (10000 : Int32).toInt) + M4 8 5 = I (rsZ w s b c x + (w 4).toInt) := by
          rw [er, hw4, he4, I_sub, I_add]; rfl
        rw [e4, a2, I_min (by omega) (by omega)] at m6
        rw [nI_1]
        refine ih M6 (by rw [m6]; exact f4.put (Or.inr rfl) _) ?_ ?_
        · rw [m6, ms_ne _ _ _ (by omega), m4, ms_at]; rfl
        · rw [m6, ms_at]; rfl
  obtain ⟨j, hj⟩ := key
  refine ⟨j, hj M2 ?_ ?_ ?_⟩
  · rw [m2, m1]
    exact (FrA.put (M' := M) ⟨fun _ _ => rfl, fun _ _ _ => rfl⟩ (Or.inl rfl) _).put (Or.inr rfl) _
  · rw [m2, ms_ne _ _ _ (by omega), m1, ms_at]; rfl
  · rw [m2, ms_at]; rfl
/-! one bend -/
/-- a law that holds, of those gone through: bends below ci all, of the bend ci slopes below bi -/
def okP (w : Nat → Int32) (ci bi k : Nat) : Bool := okA w k && (decide (k % 19 < ci) || (decide (k % 19 = ci) && decide (k / 19 < bi)))
def totC (w : Nat → Int32) (ci bi : Nat) : Int := sumZ (fun c => sumZ (fun b => maA w 0 ((b : Int) + 1) ((c : Int) - 9)) 90) ci + sumZ (fun b => maA w 0 ((b : Int) + 1) ((ci : Int) - 9)) bi
def SgK (kk : Nat → Nat) (g n ci : Nat) : Prop := (∀ i, g ≤ i → i < n → kk i % 19 = ci) ∧ ∀ i j, g ≤ i → i < j → j < n → kk i / 19 < kk j / 19
def BI (w : Nat → Int32) (M : Mem) (ci bi g1 g2 : Nat) : Prop :=
  (∃ n kk, M 63 6 = nI n ∧ g1 ≤ n ∧ n ≤ 90 * ci + bi ∧ HuK w (M 65) n kk false (okP w ci bi) ∧ SgK kk g1 n ci) ∧ (∃ n kk, M 63 7 = nI n ∧ g2 ≤ n ∧ n ≤ 90 * ci + bi ∧ HuK w (M 66) n kk true (okP w ci bi) ∧ SgK kk g2 n ci) ∧
  M 63 8 = I (totC w ci bi) ∧ (totC w ci bi = 0 → ∀ k, k < 1710 → okP w ci bi k = false) ∧ (0 < totC w ci bi → ∃ k, k < 1710 ∧ okP w ci bi k = true ∧ (∀ j, j < k → okP w ci bi j = false) ∧ M 63 9 = I (loA w 0 (kb k) (kc k)) ∧ M 63 10 = I (kb k) ∧ M 63 11 = I (kc k))
def FrB (M M' : Mem) : Prop := (∀ c, c ≠ 63 → c ≠ 65 → c ≠ 66 → M' c = M c) ∧ M' 63 12 = M 63 12
theorem maA_bd {w : Nat → Int32} (hI : WInv w) {s b c : Int} (hs : -30 ≤ s ∧ s ≤ 30) (hb : -90 ≤ b ∧ b ≤ 90) (hc : -9 ≤ c ∧ c ≤ 9) : 0 ≤ maA w s b c ∧ maA w s b c ≤ 10000 := by
  have h1 := loA_bd hI hs hb hc
  have h2 := hiA_bd hI hs hb hc
  unfold maA; omega
theorem totC_bd {w : Nat → Int32} (hI : WInv w) {ci bi : Nat} (hci : ci ≤ 19) (hbi : bi ≤ 90) (h : ci < 19 ∨ bi = 0) : 0 ≤ totC w ci bi ∧ totC w ci bi ≤ 18000000 := by
  have h1 := sumZ_bd (f := fun c => sumZ (fun b => maA w 0 ((b : Int) + 1) ((c : Int) - 9)) 90) (c := 900000) ci (fun c hc => by
    have := sumZ_bd (f := fun b => maA w 0 ((b : Int) + 1) ((c : Int) - 9)) (c := 10000) 90 (fun b hb => maA_bd hI (by omega) (by omega) (by omega))
    (try simp only []); omega)
  have h2 : 0 ≤ sumZ (fun b => maA w 0 ((b : Int) + 1) ((ci : Int) - 9)) bi ∧ sumZ (fun b => maA w 0 ((b : Int) + 1) ((ci : Int) - 9)) bi ≤ 900000 := by
    rcases h with h | h
    · have := sumZ_bd (f := fun b => maA w 0 ((b : Int) + 1) ((ci : Int) - 9)) (c := 10000) bi (fun b hb => maA_bd hI (by omega) (by omega) (by omega))
      omega
    · rw [h]; simp [sumZ]
  unfold totC
  omega
theorem okP_step {w : Nat → Int32} {ci bi : Nat} (hci : ci < 19) (k : Nat) : okP w ci (bi + 1) k = (okP w ci bi k || (okA w k && decide (k = 19 * bi + ci))) := by
  unfold okP
  cases okA w k with
  | false => rfl
  | true =>
    simp only [Bool.true_and]
    rw [Bool.eq_iff_iff]
    simp only [Bool.or_eq_true, Bool.and_eq_true, decide_eq_true_eq]
    omega
theorem okP_bend {w : Nat → Int32} {ci : Nat} {k : Nat} (hk : k < 1710) : okP w ci 90 k = okP w (ci + 1) 0 k := by
  unfold okP
  cases okA w k with
  | false => rfl
  | true =>
    simp only [Bool.true_and]
    rw [Bool.eq_iff_iff]
    simp only [Bool.or_eq_true, Bool.and_eq_true, decide_eq_true_eq]
    omega
theorem okA_iff {w : Nat → Int32} {k : Nat} : okA w k = true ↔ loA w 0 (kb k) (kc k) ≤ hiA w 0 (kb k) (kc k) := by unfold okA; rw [decide_eq_true_eq]
theorem HuK.congr {w : Nat → Int32} {A : Nat → Int32} {n : Nat} {kk : Nat → Nat} {most : Bool} {ok ok2 : Nat → Bool} (h : HuK w A n kk most ok) (he : ∀ k, k < 1710 → ok2 k = ok k) : HuK w A n kk most ok2 :=
  ⟨fun i hi => ⟨(h.1 i hi).1, by rw [he _ (h.1 i hi).1]; exact (h.1 i hi).2.1, (h.1 i hi).2.2⟩, fun z k hk hok => h.2 z k hk (by rw [← he k hk]; exact hok)⟩
theorem aK_bd {w : Nat → Int32} (hI : WInv w) {most : Bool} {k : Nat} (hk : k < 1710) (hok : okA w k = true) : 0 ≤ aK w most k ∧ aK w most k ≤ 9999 := by
  have h1 := loA_bd hI (s := 0) (by omega) (kb_bd hk) (kc_bd k)
  have h2 := hiA_bd hI (s := 0) (by omega) (kb_bd hk) (kc_bd k)
  rw [okA_iff] at hok
  unfold aK
  split <;> omega
theorem kb_of {bi ci : Nat} (hci : ci < 19) : kb (19 * bi + ci) = (bi : Int) + 1 ∧ kc (19 * bi + ci) = (ci : Int) - 9 := by
  unfold kb kc
  omega
/-- a point more on a hull -/
theorem hull_put {w : Nat → Int32} {A : Nat → Int32} {n m g ci bi : Nat} {kk : Nat → Nat} {most : Bool} (hci : ci < 19) (hbi : bi < 90) (hH : HuK w A n kk most (okP w ci bi)) (hS : SgK kk g n ci) (hgm : g ≤ m) (hmn : m ≤ n) (hok : okA w (19 * bi + ci) = true)
    (hdom : ∀ i z, g ≤ i → i < n → (∃ j, g ≤ j ∧ j < m ∧ dmZ most (hK w most (kk j) z) (hK w most (kk i) z)) ∨ dmZ most (hK w most (19 * bi + ci) z) (hK w most (kk i) z)) :
    HuK w (upd A m (ptI (aK w most (19 * bi + ci)) (kb (19 * bi + ci)) (kc (19 * bi + ci)))) (m + 1) (fun i => if i = m then 19 * bi + ci else kk i) most (okP w ci (bi + 1)) ∧ SgK (fun i => if i = m then 19 * bi + ci else kk i) g (m + 1) ci := by
  have hdt : ∀ {x y z : Int}, dmZ most x y → dmZ most y z → dmZ most x z := by
    intro x y z h1 h2; unfold dmZ at *; cases most <;> simp at * <;> omega
  have hnew : okP w ci (bi + 1) (19 * bi + ci) = true := by rw [okP_step hci, hok]; simp
  refine ⟨⟨fun i hi => ?_, fun z k hk hk2 => ?_⟩, fun i h1 h2 => ?_, fun i j h1 h2 h3 => ?_⟩
  · by_cases e : i = m
    · simp only [e, if_true]
      exact ⟨by omega, hnew, upd_eq _ _ _⟩
    · simp only [e, if_false]
      have := hH.1 i (by omega)
      exact ⟨this.1, by rw [okP_step hci, this.2.1]; rfl, by rw [upd_ne _ _ e]; exact this.2.2⟩
  · rw [okP_step hci] at hk2
    by_cases hold : okP w ci bi k = true
    · obtain ⟨i, hi, hd⟩ := hH.2 z k hk hold
      by_cases hig : i < g
      · refine ⟨i, by omega, ?_⟩
        simp only [show i ≠ m by omega, if_false]; exact hd
      · rcases hdom i z (by omega) hi with ⟨j, j1, j2, j3⟩ | j3
        · refine ⟨j, by omega, ?_⟩
          simp only [show j ≠ m by omega, if_false]; exact hdt j3 hd
        · refine ⟨m, by omega, ?_⟩
          simp only [if_true]; exact hdt j3 hd
    · have hold : okP w ci bi k = false := by simpa using hold
      rw [hold] at hk2
      simp only [Bool.false_or, Bool.and_eq_true, decide_eq_true_eq] at hk2
      refine ⟨m, by omega, ?_⟩
      simp only [if_true]
      rw [hk2.2]
      unfold dmZ; cases most <;> simp
  · by_cases e : i = m
    · simp only [e, if_true]; omega
    · simp only [e, if_false]; exact hS.1 i h1 (by omega)
  · have hi : i ≠ m := by omega
    simp only [hi, if_false]
    by_cases e : j = m
    · simp only [e, if_true]
      have h5 := (hH.1 i (by omega)).2.1
      have h6 := hS.1 i h1 (by omega)
      unfold okP at h5
      simp only [Bool.and_eq_true, Bool.or_eq_true, decide_eq_true_eq] at h5
      omega
    · simp only [e, if_false]; exact hS.2 i j h1 h2 (by omega)
theorem s_C_solveBend {post : Mem → Prop} {w : Nat → Int32} {ci : Nat} {M : Mem} (hD : Dk 1 M w) (hI : WInv w) (hP : PlOK M w 0) (hci : ci < 19) (hB : ∃ g1 g2, M 63 6 = nI g1 ∧ M 63 7 = nI g2 ∧ BI w M ci 0 g1 g2)
    (h : ∀ M', FrB M M' → (∃ g1 g2, M' 63 6 = nI g1 ∧ M' 63 7 = nI g2 ∧ BI w M' (ci + 1) 0 g1 g2) → post M') : P_Laws_solveBend post (I ((ci : Int) - 9)) M := by
  obtain ⟨g1, g2, eg1, eg2, hB⟩ := hB
  unfold P_Laws_solveBend
  rw [eg1, eg2]
  have key : ∃ j, ∀ M1, FrB M M1 → BI w M1 ci 0 g1 g2 → P_Laws_solveBend_13 post j (I ((ci : Int) - 9)) (nI g1) (nI g2) (nI (0 + 1)) M1 := by
    refine lpN (R := fun j bi => ∀ M1, FrB M M1 → BI w M1 ci bi g1 g2 → P_Laws_solveBend_13 post j (I ((ci : Int) - 9)) (nI g1) (nI g2) (nI (bi + 1)) M1) (N := 90) (fun j M1 hF hB1 => ?_) (fun j bi hbi ih M1 hF hB1 => ?_)
    · refine ⟨fun _ => ?_, fun q => absurd (show (90 : Int32) < nI (90 + 1) by decide) q⟩
      obtain ⟨⟨n1, k1, a1, b1, c1, d1, s1⟩, ⟨n2, k2, a2, b2, c2, d2, s2⟩, ht, hz, hf⟩ := hB1
      have et : totC w ci 90 = totC w (ci + 1) 0 := by unfold totC; simp only [sumZ]; omega
      rw [et] at ht hz hf
      refine h M1 hF ⟨n1, n2, a1, a2, ⟨n1, k1, a1, Nat.le_refl _, by omega, d1.congr (fun k hk => (okP_bend hk).symm), fun i h1 h2 => by omega, fun i j h1 h2 h3 => by omega⟩, ⟨n2, k2, a2, Nat.le_refl _, by omega, d2.congr (fun k hk => (okP_bend hk).symm), fun i h1 h2 => by omega, fun i j h1 h2 h3 => by omega⟩, ht, fun q k hk => by rw [← okP_bend hk]; exact hz q k hk, fun q => ?_⟩
      obtain ⟨k, q1, q2, q3, q4⟩ := hf q
      exact ⟨k, q1, by rw [← okP_bend q1]; exact q2, fun j hj => by rw [← okP_bend (by omega)]; exact q3 j hj, q4⟩
    · have hD1 : Dk 1 M1 w := hD.off (fun c h1 h2 => hF.1 c (by omega) (by omega) (by omega))
      have hP1 : PlOK M1 w 0 := fun x hx => by rw [hF.1 64 (by omega) (by omega) (by omega)]; exact hP x hx
      obtain ⟨hkb, hkc⟩ := kb_of (bi := bi) hci
      have hk17 : 19 * bi + ci < 1710 := by omega
      refine ⟨fun q => ?_, fun _ => ?_⟩
      · rw [show (90 : Int32) = nI 90 from rfl, ltI, nI_toI (by omega), nI_toI (by omega)] at q; omega
      have ebi : nI (bi + 1) = I ((bi : Int) + 1) := by rw [nI_I]; congr 1
      rw [ebi]
      refine s_C_meetsAll hD1 hI (by omega) hP1 (by omega) (by omega) (fun hok M2 f2 e13 e14 => ?_) (fun hok M2 f2 => ?_)
      · have hokA : okA w (19 * bi + ci) = true := by rw [okA_iff, hkb, hkc]; exact hok
        have hlo := loA_bd hI (s := 0) (b := (bi : Int) + 1) (c := (ci : Int) - 9) (by omega) (by omega) (by omega)
        have hhi := hiA_bd hI (s := 0) (b := (bi : Int) + 1) (c := (ci : Int) - 9) (by omega) (by omega) (by omega)
        obtain ⟨⟨n1, k1, a1, b1, c1, d1, s1⟩, ⟨n2, k2, a2, b2, c2, d2, s2⟩, ht, hz, hf⟩ := hB1
        have htb := totC_bd hI (ci := ci) (bi := bi) (by omega) (by omega) (Or.inl hci)
        have htb2 := totC_bd hI (ci := ci) (bi := bi + 1) (by omega) (by omega) (Or.inl hci)
        have et : totC w ci (bi + 1) = totC w ci bi + (hiA w 0 ((bi : Int) + 1) ((ci : Int) - 9) - loA w 0 ((bi : Int) + 1) ((ci : Int) - 9) + 1) := by
          unfold totC; simp only [sumZ, maA]; omega
        have F2 : FrB M M2 := ⟨fun c h1 h2 h3 => by rw [f2.1 c h1]; exact hF.1 c h1 h2 h3, by rw [f2.2 12 (by omega) (by omega)]; exact hF.2⟩
        -- what comes behind the first law's three numbers
        have go : ∀ M3, FrB M M3 → (∀ c, c ≠ 63 → M3 c = M1 c) → M3 63 6 = nI n1 → M3 63 7 = nI n2 → M3 63 8 = I (totC w ci bi) → M3 63 13 = I (loA w 0 ((bi : Int) + 1) ((ci : Int) - 9)) → M3 63 14 = I (hiA w 0 ((bi : Int) + 1) ((ci : Int) - 9)) →
            (∃ k, k < 1710 ∧ okP w ci (bi + 1) k = true ∧ (∀ j, j < k → okP w ci (bi + 1) j = false) ∧ M3 63 9 = I (loA w 0 (kb k) (kc k)) ∧ M3 63 10 = I (kb k) ∧ M3 63 11 = I (kc k)) →
            P_Laws_solveBend_65 post (P_Laws_solveBend_13 post j) (I ((ci : Int) - 9)) (nI g1) (nI g2) (I ((bi : Int) + 1)) M3 := by
          intro M3 F3 o3 x6 x7 x8 x13 x14 hfirst M4 m4
          have y6 : M4 63 6 = nI n1 := by rw [m4, ms_ne _ _ _ (by omega)]; exact x6
          have y13 : M4 63 13 = I (loA w 0 ((bi : Int) + 1) ((ci : Int) - 9)) := by rw [m4, ms_ne _ _ _ (by omega)]; exact x13
          rw [y13, y6]
          refine s_C_pointOf (by omega) (by omega) (by omega) ?_
          have r65 : M4 65 = M1 65 := by rw [m4, ms_off _ _ _ (by omega)]; exact o3 65 (by omega)
          have hseg1 : SegOK (M4 65) g1 n1 (fun b => loA w 0 b ((ci : Int) - 9)) ((ci : Int) - 9) ((bi : Int) + 1) (fun b => 1 ≤ b ∧ b ≤ 90 ∧ loA w 0 b ((ci : Int) - 9) ≤ hiA w 0 b ((ci : Int) - 9)) (fun i => kb (k1 i)) := by
            refine ⟨fun i h1 h2 => ?_, fun i j h1 h2 h3 => ?_⟩
            · have p1 := d1.1 i h2
              have p2 := s1.1 i h1 h2
              have p3 := p1.2.1
              unfold okP at p3
              simp only [Bool.and_eq_true, Bool.or_eq_true, decide_eq_true_eq] at p3
              have p4 := okA_iff.mp p3.1
              have ek : kc (k1 i) = (ci : Int) - 9 := by unfold kc; omega
              have p5 := p1.1
              rw [ek] at p4
              have hk : 1 ≤ kb (k1 i) ∧ kb (k1 i) < (bi : Int) + 1 ∧ kb (k1 i) ≤ 90 := by unfold kb; omega
              refine ⟨hk.1, hk.2.1, ⟨hk.1, hk.2.2, p4⟩, ?_⟩
              rw [r65, p1.2.2, ek]; unfold aK; simp only [Bool.false_eq_true, if_false]; rw [ek]
            · have := s1.2 i j h1 h2 h3
              simp only [kb]; omega
          refine s_C_added (av := fun b => loA w 0 b ((ci : Int) - 9)) (ok := fun b => 1 ≤ b ∧ b ≤ 90 ∧ loA w 0 b ((ci : Int) - 9) ≤ hiA w 0 b ((ci : Int) - 9)) (pb := fun i => kb (k1 i)) (fun x hx => ?_) (by omega) (by omega) ⟨by omega, by omega, hok⟩ (n1 - g1) n1 (by omega) (by omega) hseg1 (fun m1 M5 u1 u2 u3 u4 u5 => ?_)
          · have q1 := loA_bd hI (s := 0) (b := x) (c := (ci : Int) - 9) (by omega) (by omega) (by omega)
            have q2 := hiA_bd hI (s := 0) (b := x) (c := (ci : Int) - 9) (by omega) (by omega) (by omega)
            (try simp only []); omega
          intro M6 m6
          have z14 : M6 63 14 = I (hiA w 0 ((bi : Int) + 1) ((ci : Int) - 9)) := by rw [m6, ms_ne _ _ _ (by omega), u3 63 (by omega), m4, ms_ne _ _ _ (by omega)]; exact x14
          have z7 : M6 63 7 = nI n2 := by rw [m6, ms_ne _ _ _ (by omega), u3 63 (by omega), m4, ms_ne _ _ _ (by omega)]; exact x7
          rw [z14, z7]
          refine s_C_pointOf (by omega) (by omega) (by omega) ?_
          have r66 : M6 66 = M1 66 := by rw [m6, ms_off _ _ _ (by omega), u3 66 (by omega), m4, ms_off _ _ _ (by omega)]; exact o3 66 (by omega)
          have hseg2 : SegOK (M6 66) g2 n2 (fun b => hiA w 0 b ((ci : Int) - 9)) ((ci : Int) - 9) ((bi : Int) + 1) (fun b => 1 ≤ b ∧ b ≤ 90 ∧ loA w 0 b ((ci : Int) - 9) ≤ hiA w 0 b ((ci : Int) - 9)) (fun i => kb (k2 i)) := by
            refine ⟨fun i h1 h2 => ?_, fun i j h1 h2 h3 => ?_⟩
            · have p1 := d2.1 i h2
              have p2 := s2.1 i h1 h2
              have p3 := p1.2.1
              unfold okP at p3
              simp only [Bool.and_eq_true, Bool.or_eq_true, decide_eq_true_eq] at p3
              have p4 := okA_iff.mp p3.1
              have ek : kc (k2 i) = (ci : Int) - 9 := by unfold kc; omega
              have p5 := p1.1
              rw [ek] at p4
              have hk : 1 ≤ kb (k2 i) ∧ kb (k2 i) < (bi : Int) + 1 ∧ kb (k2 i) ≤ 90 := by unfold kb; omega
              refine ⟨hk.1, hk.2.1, ⟨hk.1, hk.2.2, p4⟩, ?_⟩
              rw [r66, p1.2.2, ek]; unfold aK; simp only [if_true]; rw [ek]
            · have := s2.2 i j h1 h2 h3
              simp only [kb]; omega
          refine s_C_added_66 (av := fun b => hiA w 0 b ((ci : Int) - 9)) (ok := fun b => 1 ≤ b ∧ b ≤ 90 ∧ loA w 0 b ((ci : Int) - 9) ≤ hiA w 0 b ((ci : Int) - 9)) (pb := fun i => kb (k2 i)) (fun x hx => ?_) (by omega) (by omega) ⟨by omega, by omega, hok⟩ (n2 - g2) n2 (by omega) (by omega) hseg2 (fun m2 M7 v1 v2 v3 v4 v5 => ?_)
          · have q1 := loA_bd hI (s := 0) (b := x) (c := (ci : Int) - 9) (by omega) (by omega) (by omega)
            have q2 := hiA_bd hI (s := 0) (b := x) (c := (ci : Int) - 9) (by omega) (by omega) (by omega)
            (try simp only []); omega
          intro M8 m8
          unfold P_Laws_solveBend_139
          rw [← ebi, nI_1]
          have row63 : ∀ k, k ≠ 6 → k ≠ 7 → k ≠ 8 → M8 63 k = M3 63 k := fun k h6 h7 h8 => by
            rw [m8, ms_ne _ _ _ h7, v3 63 (by omega), m6, ms_ne _ _ _ h6, u3 63 (by omega), m4, ms_ne _ _ _ h8]
          refine ih M8 ⟨fun c q1 q2 q3 => ?_, ?_⟩ ⟨⟨m1 + 1, (fun i => if i = m1 then 19 * bi + ci else k1 i), ?_, by omega, by omega, ?_⟩, ⟨m2 + 1, (fun i => if i = m2 then 19 * bi + ci else k2 i), ?_, by omega, by omega, ?_⟩, ?_, fun q => ?_, fun q => ?_⟩
          · rw [m8, ms_off _ _ _ q1, v3 c q3, m6, ms_off _ _ _ q1, u3 c q2, m4, ms_off _ _ _ q1]; exact F3.1 c q1 q2 q3
          · rw [row63 12 (by omega) (by omega) (by omega)]; exact F3.2
          · rw [m8, ms_ne _ _ _ (by omega), v3 63 (by omega), m6, ms_at]
          · have e65 : M8 65 = upd (M1 65) m1 (ptI (aK w false (19 * bi + ci)) (kb (19 * bi + ci)) (kc (19 * bi + ci))) := by
              rw [m8, ms_off _ _ _ (by omega), v3 65 (by omega), m6, ms_off _ _ _ (by omega), u4, r65]
              unfold aK; simp only [Bool.false_eq_true, if_false]; rw [hkb, hkc]
            rw [e65]
            refine hull_put hci hbi d1 s1 u1 u2 hokA (fun i z h1 h2 => ?_)
            have ek : ∀ i, g1 ≤ i → i < n1 → hK w false (k1 i) z = htZ (loA w 0 (kb (k1 i)) ((ci : Int) - 9)) (kb (k1 i)) ((ci : Int) - 9) z := by
              intro i h1 h2
              have p2 := s1.1 i h1 h2
              have : kc (k1 i) = (ci : Int) - 9 := by unfold kc; omega
              unfold hK aK; simp only [Bool.false_eq_true, if_false]; rw [this]
            have en : hK w false (19 * bi + ci) z = htZ (loA w 0 ((bi : Int) + 1) ((ci : Int) - 9)) ((bi : Int) + 1) ((ci : Int) - 9) z := by
              unfold hK aK; simp only [Bool.false_eq_true, if_false]; rw [hkb, hkc]
            rw [ek i h1 h2, en]
            rcases u5 i z h1 h2 with ⟨j, j1, j2, j3⟩ | j3
            · exact Or.inl ⟨j, j1, j2, by rw [ek j j1 (by omega)]; exact j3⟩
            · exact Or.inr j3
          · rw [m8, ms_at]
          · have e66 : M8 66 = upd (M1 66) m2 (ptI (aK w true (19 * bi + ci)) (kb (19 * bi + ci)) (kc (19 * bi + ci))) := by
              rw [m8, ms_off _ _ _ (by omega), v4, r66]
              unfold aK; simp only [if_true]; rw [hkb, hkc]
            rw [e66]
            refine hull_put hci hbi d2 s2 v1 v2 hokA (fun i z h1 h2 => ?_)
            have ek : ∀ i, g2 ≤ i → i < n2 → hK w true (k2 i) z = htZ (hiA w 0 (kb (k2 i)) ((ci : Int) - 9)) (kb (k2 i)) ((ci : Int) - 9) z := by
              intro i h1 h2
              have p2 := s2.1 i h1 h2
              have : kc (k2 i) = (ci : Int) - 9 := by unfold kc; omega
              unfold hK aK; simp only [if_true]; rw [this]
            have en : hK w true (19 * bi + ci) z = htZ (hiA w 0 ((bi : Int) + 1) ((ci : Int) - 9)) ((bi : Int) + 1) ((ci : Int) - 9) z := by
              unfold hK aK; simp only [if_true]; rw [hkb, hkc]
            rw [ek i h1 h2, en]
            rcases v5 i z h1 h2 with ⟨j, j1, j2, j3⟩ | j3
            · exact Or.inl ⟨j, j1, j2, by rw [ek j j1 (by omega)]; exact j3⟩
            · exact Or.inr j3
          · have e8 : M8 63 8 = M4 63 8 := by rw [m8, ms_ne _ _ _ (by omega), v3 63 (by omega), m6, ms_ne _ _ _ (by omega), u3 63 (by omega)]
            rw [e8, m4, ms_at, x8, x13, x14, I_sub, show (1 : Int32) = I 1 from rfl, I_add, I_add, et]
          · exfalso; omega
          · obtain ⟨k, q1, q2, q3, q4, q5, q6⟩ := hfirst
            exact ⟨k, q1, q2, q3, by rw [row63 9 (by omega) (by omega) (by omega)]; exact q4, by rw [row63 10 (by omega) (by omega) (by omega)]; exact q5, by rw [row63 11 (by omega) (by omega) (by omega)]; exact q6⟩
        have hnewk : okP w ci (bi + 1) (19 * bi + ci) = true := by rw [okP_step hci, hokA]; simp
        -- the first law's three numbers are put anew
        have put : (∀ j, j < 19 * bi + ci → okP w ci bi j = false) → P_Laws_solveBend_46 post (P_Laws_solveBend_13 post j) (I ((ci : Int) - 9)) (nI g1) (nI g2) (I ((bi : Int) + 1)) M2 := by
          intro hmin M3 m3 M4 m4 M5 m5
          have row : ∀ k, k ≠ 9 → k ≠ 10 → k ≠ 11 → M5 63 k = M2 63 k := fun k h1 h2 h3 => by rw [m5, ms_ne _ _ _ h3, m4, ms_ne _ _ _ h2, m3, ms_ne _ _ _ h1]
          have oth : ∀ c, c ≠ 63 → M5 c = M2 c := fun c hc => by rw [m5, ms_off _ _ _ hc, m4, ms_off _ _ _ hc, m3, ms_off _ _ _ hc]
          refine go M5 ⟨fun c h1 h2 h3 => by rw [oth c h1]; exact F2.1 c h1 h2 h3, by rw [row 12 (by omega) (by omega) (by omega)]; exact F2.2⟩ (fun c hc => by rw [oth c hc, f2.1 c hc]) ?_ ?_ ?_ ?_ ?_ ⟨19 * bi + ci, hk17, hnewk, fun j hj => ?_, ?_, ?_, ?_⟩
          · rw [row 6 (by omega) (by omega) (by omega), f2.2 6 (by omega) (by omega)]; exact a1
          · rw [row 7 (by omega) (by omega) (by omega), f2.2 7 (by omega) (by omega)]; exact a2
          · rw [row 8 (by omega) (by omega) (by omega), f2.2 8 (by omega) (by omega)]; exact ht
          · rw [row 13 (by omega) (by omega) (by omega)]; exact e13
          · rw [row 14 (by omega) (by omega) (by omega)]; exact e14
          · rw [okP_step hci, hmin j hj, decide_eq_false (by omega), Bool.and_false]; rfl
          · rw [m5, ms_ne _ _ _ (by omega), m4, ms_ne _ _ _ (by omega), m3, ms_at, e13, hkb, hkc]
          · rw [m5, ms_ne _ _ _ (by omega), m4, ms_at, hkb]
          · rw [m5, ms_at, hkc]
        refine ⟨fun q => absurd q (by decide), fun _ => ?_⟩
        have e8 : M2 63 8 = I (totC w ci bi) := by rw [f2.2 8 (by omega) (by omega)]; exact ht
        rw [e8, show (0 : Int32) = I 0 from rfl, I_eq (by omega) (by omega)]
        refine ⟨fun q => put (fun j hj => hz q j (by omega)), fun q => ?_⟩
        obtain ⟨k, q1, q2, q3, q4, q5, q6⟩ := hf (by omega)
        have e10 : M2 63 10 = I (kb k) := by rw [f2.2 10 (by omega) (by omega)]; exact q5
        have hkk := kb_bd q1
        rw [e10, I_le (by omega) (by omega)]
        have hq2 := q2
        unfold okP at hq2
        simp only [Bool.and_eq_true, Bool.or_eq_true, decide_eq_true_eq] at hq2
        refine ⟨fun hle => ?_, fun hgt => put (fun j hj => q3 j ?_)⟩
        · refine go M2 F2 (fun c hc => f2.1 c hc) (by rw [f2.2 6 (by omega) (by omega)]; exact a1) (by rw [f2.2 7 (by omega) (by omega)]; exact a2) e8 e13 e14 ⟨k, q1, by rw [okP_step hci, q2]; rfl, fun j hj => ?_, by rw [f2.2 9 (by omega) (by omega)]; exact q4, e10, by rw [f2.2 11 (by omega) (by omega)]; exact q6⟩
          rw [okP_step hci, q3 j hj, decide_eq_false (by unfold kb at hle; omega), Bool.and_false]; rfl
        · unfold kb at hgt; omega
      · have hokA : okA w (19 * bi + ci) = false := by
          cases hq : okA w (19 * bi + ci) with
          | false => rfl
          | true => rw [okA_iff, hkb, hkc] at hq; exact absurd hq hok
        have hsame : ∀ k, okP w ci (bi + 1) k = okP w ci bi k := by
          intro k
          rw [okP_step hci]
          by_cases e : k = 19 * bi + ci
          · rw [e, hokA]; simp
          · rw [decide_eq_false e, Bool.and_false, Bool.or_false]
        have et : totC w ci (bi + 1) = totC w ci bi := by unfold totC; simp only [sumZ, maA]; omega
        refine ⟨fun _ => ?_, fun q => absurd (by decide) q⟩
        unfold P_Laws_solveBend_139
        rw [← ebi, nI_1]
        obtain ⟨⟨n1, k1, a1, b1, c1, d1, s1⟩, ⟨n2, k2, a2, b2, c2, d2, s2⟩, ht, hz, hf⟩ := hB1
        refine ih M2 ⟨fun c h1 h2 h3 => by rw [f2.1 c h1]; exact hF.1 c h1 h2 h3, by rw [f2.2 12 (by omega) (by omega)]; exact hF.2⟩ ⟨⟨n1, k1, ?_, b1, by omega, ?_, s1⟩, ⟨n2, k2, ?_, b2, by omega, ?_, s2⟩, ?_, ?_, ?_⟩
        · rw [f2.2 6 (by omega) (by omega)]; exact a1
        · rw [f2.1 65 (by omega)]; exact d1.congr (fun k _ => hsame k)
        · rw [f2.2 7 (by omega) (by omega)]; exact a2
        · rw [f2.1 66 (by omega)]; exact d2.congr (fun k _ => hsame k)
        · rw [f2.2 8 (by omega) (by omega), et]; exact ht
        · rw [et]; exact fun q k hk => by rw [hsame]; exact hz q k hk
        · rw [et]
          intro q
          obtain ⟨k, q1, q2, q3, q4, q5, q6⟩ := hf q
          exact ⟨k, q1, by rw [hsame]; exact q2, fun j hj => by rw [hsame]; exact q3 j hj, by rw [f2.2 9 (by omega) (by omega)]; exact q4, by rw [f2.2 10 (by omega) (by omega)]; exact q5, by rw [f2.2 11 (by omega) (by omega)]; exact q6⟩
  obtain ⟨j, hj⟩ := key
  exact ⟨j, hj M ⟨fun _ _ _ _ => rfl, rfl⟩ hB⟩
