/-! THE CLASS: the judge -/
/-- a wave lies in a reading of plate p -/
def htB (w lo hi : Nat → Int32) (p : Nat) (r : Nat) (v : Int32) : Bool := decide (w (191 + 5 * r) = nI p) && inB lo hi r v
/-- the judge has opened plate p; by_: so far the readings have drifted -/
def JdOK (M : Mem) (w : Nat → Int32) (p : Nat) (lo hi : Nat → Int32) : Prop :=
  M 69 10 = nI p ∧ M 69 11 = bitF (fun r => decide (w (191 + 5 * r) = nI p)) (nn (w 9)) ∧ M 69 12 = bitF (fun r => decide (w (191 + 5 * r) = nI p) && ghB w r) (nn (w 9)) ∧
  ∀ r, r < nn (w 9) → (w (191 + 5 * r) = nI p ∧ 0 < toA w 0 ∧ M 70 r = lo r ∧ M 71 r = hi r) ∨ (¬ (w (191 + 5 * r) = nI p ∧ 0 < toA w 0) ∧ M 70 r = 1 ∧ M 71 r = 0)
theorem ed_real {w : Nat → Int32} (hI : WInv w) {z : Int} (hz : -1047 ≤ z ∧ z ≤ 1047) {most : Bool} (h : 0 < toA w 0) : -60000 ≤ edZ w z most ∧ edZ w z most ≤ 60000 := by
  obtain ⟨k, k1, k2⟩ := (toA_pos hI (by omega)).mp h
  rcases ed_spec hI hz (most := most) 1710 (Nat.le_refl _) with ⟨_, h2⟩ | ⟨⟨k, h1, h2, h3⟩, _⟩
  · have hq := h2 k k1
    rw [okA_iff.mpr k2] at hq; cases hq
  · unfold edZ; rw [h3]; exact wvA_bd hI hz h1
theorem ed_le {w : Nat → Int32} (hI : WInv w) {z : Int} (hz : -1047 ≤ z ∧ z ≤ 1047) (h : 0 < toA w 0) : edZ w z false ≤ edZ w z true := by
  obtain ⟨k, k1, k2⟩ := (toA_pos hI (by omega)).mp h
  have hok := okA_iff.mpr k2
  have her := hI.er
  unfold rg at her
  rcases ed_spec hI hz (most := false) 1710 (Nat.le_refl _) with ⟨_, h2⟩ | ⟨_, h4⟩
  · have := h2 k k1; rw [hok] at this; cases this
  · rcases ed_spec hI hz (most := true) 1710 (Nat.le_refl _) with ⟨_, h2⟩ | ⟨_, h5⟩
    · have := h2 k k1; rw [hok] at this; cases this
    · have a := h4 k k1 hok
      have b := h5 k k1 hok
      simp only [dmZ, Bool.false_eq_true, if_false, if_true] at a b
      unfold wvA at a b
      simp only [Bool.false_eq_true, if_false, if_true] at a b
      unfold edZ
      omega
/-- spans of readings that drifted by t on plate p (p of none: not at all) -/
theorem sp_B {w : Nat → Int32} (hI : WInv w) {q : Int32} {t : Int} (ht : -30 ≤ t ∧ t ≤ 30) {lo hi : Nat → Int32} (hS : SpOK w q t lo hi (nn (w 9))) {r : Nat} (hr : r < nn (w 9)) : spB lo hi r = decide (0 < toA w 0) := by
  have hn := hI.nr.2
  obtain ⟨h1, h2⟩ := hS r hr
  have hz := plZ_bd hI (p := q) ht (r := r) (by omega)
  have hb := toA_bd hI (s := 0) (by omega)
  unfold spB
  rw [h1, h2]
  by_cases hp : 0 < toA w 0
  · have e1 := ed_real hI (z := plZ w q t r) (most := false) (by omega) hp
    rw [decide_eq_true hp, decide_eq_true (show ¬ I (edZ w (plZ w q t r) false) = -99999 by rw [show (-99999 : Int32) = I (-99999) from rfl, I_eq (by omega) (by omega)]; omega)]; rfl
  · rw [ed_none hI (by omega) (by omega), ed_none hI (by omega) (by omega), decide_eq_false hp]; decide
theorem JdOK.hit {M : Mem} {w : Nat → Int32} {p : Nat} {lo hi : Nat → Int32} (h : JdOK M w p lo hi) (hsp : ∀ r, r < nn (w 9) → spB lo hi r = decide (0 < toA w 0)) {r : Nat} (hr : r < nn (w 9)) (v : Int32) : inb v (M 70 r) (M 71 r) = htB w lo hi p r v := by
  unfold htB inB
  rw [hsp r hr]
  rcases h.2.2.2 r hr with ⟨h1, h2, h3, h4⟩ | ⟨h1, h3, h4⟩
  · rw [decide_eq_true h1, decide_eq_true h2, h3, h4]; rfl
  · rw [h3, h4]
    have e : inb v 1 0 = false := by
      simp only [inb, decide_eq_false_iff_not, leI]
      have e0 : (0 : Int32).toInt = 0 := rfl
      have e1 : (1 : Int32).toInt = 1 := rfl
      omega
    rw [e]
    by_cases hq : w (191 + 5 * r) = nI p
    · rw [decide_eq_false (fun q => h1 ⟨hq, q⟩)]; simp
    · rw [decide_eq_false hq]; simp
/-- all but the judge's own numbers, its rows of spans excepted -/
def FrT (M M' : Mem) : Prop := (∀ c, (c < 69 ∨ 78 ≤ c ∨ c = 70 ∨ c = 71) → M' c = M c) ∧ ∀ k, k ≤ 12 → M' 69 k = M 69 k
theorem FrT.refl (M : Mem) : FrT M M := ⟨fun _ _ => rfl, fun _ _ => rfl⟩
theorem FrT.trans {A B C : Mem} (h1 : FrT A B) (h2 : FrT B C) : FrT A C := ⟨fun c hc => by rw [h2.1 c hc, h1.1 c hc], fun k hk => by rw [h2.2 k hk, h1.2 k hk]⟩
theorem FrT.put {M M' : Mem} (h : FrT M M') {c k : Nat} (hc : (c = 69 ∧ 13 ≤ k) ∨ (72 ≤ c ∧ c ≤ 77)) (v : Int32) : FrT M (ms M' c k v) := by
  refine ⟨fun d hd => by rw [ms_off _ _ _ (by omega)]; exact h.1 d hd, fun j hj => ?_⟩
  by_cases e : c = 69
  · subst e; rw [ms_ne _ _ _ (by omega)]; exact h.2 j hj
  · rw [ms_off _ _ _ (by omega)]; exact h.2 j hj
theorem FrT.dk {M M' : Mem} {w : Nat → Int32} (h : FrT M M') (hD : Dk 1 M w) : Dk 1 M' w := hD.off (fun c h1 h2 => h.1 c (by omega))
theorem FrT.q {M M' : Mem} (h : FrT M M') : FrQ M M' := fun c hc => h.1 c (by omega)
theorem FrT.lw {M M' : Mem} {w : Nat → Int32} (h : FrT M M') (hL : Lw M w) : Lw M' w := by
  unfold Lw LwOK at *
  rw [h.1 63 (by omega), h.1 65 (by omega), h.1 66 (by omega), h.1 67 (by omega), h.1 68 (by omega)]; exact hL
theorem FrT.jd {M M' : Mem} {w : Nat → Int32} {p : Nat} {lo hi : Nat → Int32} (h : FrT M M') (hJ : JdOK M w p lo hi) : JdOK M' w p lo hi := by
  unfold JdOK at *
  rw [h.2 10 (by omega), h.2 11 (by omega), h.2 12 (by omega), h.1 70 (by omega), h.1 71 (by omega)]; exact hJ
theorem bitF_or {p q : Nat → Bool} {n : Nat} (hn : n ≤ 32) : bitF p n ||| bitF q n = bitF (fun r => p r || q r) n := by
  apply gb_ext
  intro e he
  rw [gb_or, bitF_gb _ n hn e he, bitF_gb _ n hn e he, bitF_gb _ n hn e he]
  cases decide (e < n) <;> simp
/-- opening a plate -/
theorem s_C_putSpan {post : Mem → Prop} {w : Nat → Int32} {r : Nat} {t : Int} {M : Mem} (hD : Dk 1 M w) (hI : WInv w) (hL : LwOK M w) (hr : r < 24) (ht : -30 ≤ t ∧ t ≤ 30)
    (h : ∀ M', (∀ c, (c < 63 ∨ 72 ≤ c ∨ c = 69) → M' c = M c) → LwOK M' w → (M' 70 = upd (M 70) r (if 0 < toA w 0 then I (edZ w ((tpl w (w (192 + 5 * r)) (w (193 + 5 * r))).toInt + t) false) else 1) ∧ M' 71 = upd (M 71) r (if 0 < toA w 0 then I (edZ w ((tpl w (w (192 + 5 * r)) (w (193 + 5 * r))).toInt + t) true) else 0)) → post M') : P_Judge_putSpan post (nI r) (I t) M := by
  have hv : vp_in (nI r) 24 := vin_nI hr (by omega)
  have hrd := hI.rd hr
  have htp := hI.tp (d := w (193 + 5 * r)) hrd.2.1
  unfold rg at htp
  unfold P_Judge_putSpan
  rw [nI_clamp (by omega), hD.rl hr, hD.rd hr]
  refine ⟨hv, hv, s_C_truePlace hD hI (rg01 hrd.2.2.1) ?_⟩
  rw [I_ofS (tpl w (w (192 + 5 * r)) (w (193 + 5 * r))), I_add]
  refine s_C_slotOf hD hI hL (by omega) (fun h0 => ?_) (fun hp M2 s f2 hL2 hs a1 a2 _ => ?_)
  · refine ⟨fun q => absurd rfl q, fun _ => ⟨hv, fun M1 m1 => ⟨hv, fun M2 m2 => ?_⟩⟩⟩
    rw [nI_clamp (by omega)] at m1 m2
    rw [if_neg (by omega), if_neg (by omega)] at h
    refine h M2 (fun c hc => by rw [m2, ms_off _ _ _ (by omega), m1, ms_off _ _ _ (by omega)]) (hL.sp ?_ ?_ ?_ ?_) ⟨?_, ?_⟩
    · rw [m2, ms_off _ _ _ (by omega), m1, ms_off _ _ _ (by omega)]
    · rw [m2, ms_off _ _ _ (by omega), m1, ms_off _ _ _ (by omega)]
    · rw [m2, ms_off _ _ _ (by omega), m1, ms_off _ _ _ (by omega)]
    · rw [m2, ms_off _ _ _ (by omega), ms_off _ _ _ (by omega), m1, ms_off _ _ _ (by omega), ms_off _ _ _ (by omega)]; exact hL.2.2.2.2
    · rw [m2, ms_off _ _ _ (by omega), m1, ms_row]
    · rw [m2, ms_row, m1, ms_off _ _ _ (by omega)]
  · refine ⟨fun _ => ⟨vin_nI hs (by omega), hv, fun M3 m3 => ⟨vin_nI hs (by omega), hv, fun M4 m4 => ?_⟩⟩, fun q => ?_⟩
    · rw [show (nI s).toNatClampNeg = s from nI_clamp (by omega), a1] at m3
      have e68 : M3 68 s = I (edZ w ((tpl w (w (192 + 5 * r)) (w (193 + 5 * r))).toInt + t) true) := by rw [m3, ms_off _ _ _ (by omega)]; exact a2
      rw [show (nI s).toNatClampNeg = s from nI_clamp (by omega), e68] at m4
      rw [if_pos hp, if_pos hp] at h
      refine h M4 (fun c hc => by rw [m4, ms_off _ _ _ (by omega), m3, ms_off _ _ _ (by omega)]; exact f2 c (by omega)) (hL2.sp ?_ ?_ ?_ ?_) ⟨?_, ?_⟩
      · rw [m4, ms_off _ _ _ (by omega), m3, ms_off _ _ _ (by omega)]
      · rw [m4, ms_off _ _ _ (by omega), m3, ms_off _ _ _ (by omega)]
      · rw [m4, ms_off _ _ _ (by omega), m3, ms_off _ _ _ (by omega)]
      · rw [m4, ms_off _ _ _ (by omega), ms_off _ _ _ (by omega), m3, ms_off _ _ _ (by omega), ms_off _ _ _ (by omega)]; exact hL2.2.2.2.2
      · rw [m4, ms_off _ _ _ (by omega), m3, ms_row, f2 70 (by omega)]
      · rw [m4, ms_row, m3, ms_off _ _ _ (by omega), f2 71 (by omega)]
    · exfalso; rw [eqI, nI_toI (by omega)] at q; have : (-1 : Int32).toInt = -1 := rfl; omega
theorem s_C_open {post : Mem → Prop} {w : Nat → Int32} {p : Nat} {M : Mem} (hD : Dk 1 M w) (hI : WInv w) (hL : Lw M w) (hp : p < 3) (h : ∀ M' lo hi, SpOK w (-1) 0 lo hi (nn (w 9)) → FrQ M M' → LwOK M' w → JdOK M' w p lo hi → post M') : P_Judge_open post (nI p) M := by
  obtain ⟨hn, hn24⟩ := hI.nr
  refine s_C_solve hD hI hL (fun M1 f1 hL1 M2 m2 M3 m3 M4 m4 => ?_)
  have o4 : ∀ c, c ≠ 69 → M4 c = M1 c := fun c hc => by rw [m4, ms_off _ _ _ hc, m3, ms_off _ _ _ hc, m2, ms_off _ _ _ hc]
  have e10 : M4 69 10 = nI p := by rw [m4, ms_ne _ _ _ (by omega), m3, ms_ne _ _ _ (by omega), m2, ms_at]
  have e11 : M4 69 11 = 0 := by rw [m4, ms_ne _ _ _ (by omega), m3, ms_at]
  have e12 : M4 69 12 = 0 := by rw [m4, ms_at]
  have FQ4 : FrQ M M4 := fun c hc => by rw [o4 c (by omega)]; exact f1 c (by omega)
  have hL4 : LwOK M4 w := hL1.sp (o4 63 (by omega)) (o4 65 (by omega)) (o4 66 (by omega)) (by rw [o4 67 (by omega), o4 68 (by omega)]; exact hL1.2.2.2.2)
  clear m2 m3 m4
  -- the spans of all readings
  have hS : SpOK w (-1) 0 (fun r => I (edZ w (plZ w (-1) 0 r) false)) (fun r => I (edZ w (plZ w (-1) 0 r) true)) (nn (w 9)) := fun r _ => ⟨rfl, rfl⟩
  have hpl : ∀ r, plZ w (-1) 0 r = (tpl w (w (192 + 5 * r)) (w (193 + 5 * r))).toInt + 0 := fun r => by unfold plZ; split <;> rfl
  generalize hlo : (fun r => I (edZ w (plZ w (-1) 0 r) false)) = lo at hS
  generalize hhi : (fun r => I (edZ w (plZ w (-1) 0 r) true)) = hi at hS
  have elo : ∀ r, lo r = I (edZ w ((tpl w (w (192 + 5 * r)) (w (193 + 5 * r))).toInt + 0) false) := fun r => by rw [← hlo, ← hpl r]
  have ehi : ∀ r, hi r = I (edZ w ((tpl w (w (192 + 5 * r)) (w (193 + 5 * r))).toInt + 0) true) := fun r => by rw [← hhi, ← hpl r]
  have key : ∃ j, ∀ M5, FrQ M M5 → LwOK M5 w → M5 69 10 = nI p → M5 69 11 = bitF (fun r => decide (w (191 + 5 * r) = nI p)) 0 → M5 69 12 = bitF (fun r => decide (w (191 + 5 * r) = nI p) && ghB w r) 0 →
      (∀ r, r < 0 → (w (191 + 5 * r) = nI p ∧ 0 < toA w 0 ∧ M5 70 r = lo r ∧ M5 71 r = hi r) ∨ (¬ (w (191 + 5 * r) = nI p ∧ 0 < toA w 0) ∧ M5 70 r = 1 ∧ M5 71 r = 0)) → P_Judge_open_24 post j (nI 0) M5 := by
    refine lpN (R := fun j x => ∀ M5, FrQ M M5 → LwOK M5 w → M5 69 10 = nI p → M5 69 11 = bitF (fun r => decide (w (191 + 5 * r) = nI p)) x → M5 69 12 = bitF (fun r => decide (w (191 + 5 * r) = nI p) && ghB w r) x →
      (∀ r, r < x → (w (191 + 5 * r) = nI p ∧ 0 < toA w 0 ∧ M5 70 r = lo r ∧ M5 71 r = hi r) ∨ (¬ (w (191 + 5 * r) = nI p ∧ 0 < toA w 0) ∧ M5 70 r = 1 ∧ M5 71 r = 0)) → P_Judge_open_24 post j (nI x) M5) (N := nn (w 9)) (fun j M5 f5 hL5 x10 x11 x12 hrow => ?_) (fun j x hx ih M5 f5 hL5 x10 x11 x12 hrow => ?_)
    · have hD5 := f5.dk hD
      exact brSt (by rw [hD5.nr]; exact hn) (h M5 lo hi hS f5 hL5 ⟨x10, x11, x12, hrow⟩)
    · have hx24 : x < 24 := by omega
      have hD5 := f5.dk hD
      have hv : vp_in (nI x) 24 := vin_nI hx24 (by omega)
      refine brGo (by rw [hD5.nr]; exact hn) (by omega) hx ⟨hv, fun M6 m6 => ⟨hv, fun M7 m7 => ⟨hv, ?_⟩⟩⟩
      rw [nI_clamp (by omega)] at m6 m7
      have o7 : ∀ c, c ≠ 70 → c ≠ 71 → M7 c = M5 c := fun c h0 h1 => by rw [m7, ms_off _ _ _ h1, m6, ms_off _ _ _ h0]
      have r70 : M7 70 = upd (M5 70) x 1 := by rw [m7, ms_off _ _ _ (by omega), m6, ms_row]
      have r71 : M7 71 = upd (M5 71) x 0 := by rw [m7, ms_row, m6, ms_off _ _ _ (by omega)]
      have f7 : FrQ M M7 := fun c hc => by rw [o7 c (by omega) (by omega)]; exact f5 c hc
      have hL7 : LwOK M7 w := hL5.sp (o7 63 (by omega) (by omega)) (o7 65 (by omega) (by omega)) (o7 66 (by omega) (by omega)) (by rw [o7 67 (by omega) (by omega), o7 68 (by omega) (by omega)]; exact hL5.2.2.2.2)
      have hD7 := f7.dk hD
      have y10 : M7 69 10 = nI p := by rw [o7 69 (by omega) (by omega)]; exact x10
      have y11 := (congrFun (o7 69 (by omega) (by omega)) 11).trans x11
      have y12 := (congrFun (o7 69 (by omega) (by omega)) 12).trans x12
      clear m6 m7
      rw [nI_clamp (by omega), hD7.rp hx24, y10]
      refine ⟨fun c => ?_, fun c M8 m8 => ?_⟩
      · unfold P_Judge_open_110
        rw [nI_1]
        refine ih M7 f7 hL7 y10 ?_ ?_ (fun r hr => ?_)
        · rw [y11]; simp only [bitF, decide_eq_false c, Bool.false_eq_true, if_false]
        · rw [y12]; simp only [bitF, decide_eq_false c, Bool.false_and, Bool.false_eq_true, if_false]
        · by_cases e : r = x
          · right; rw [e, r70, r71, upd_eq, upd_eq]; exact ⟨fun q => c q.1, rfl, rfl⟩
          · rw [r70, r71, upd_ne _ _ e, upd_ne _ _ e]; exact hrow r (by omega)
      · rw [y11] at m8
        have o8 : ∀ c, c ≠ 69 → M8 c = M7 c := fun c hc => by rw [m8, ms_off _ _ _ hc]
        have f8 : FrQ M M8 := fun c hc => by rw [o8 c (by omega)]; exact f7 c hc
        have hD8 := f8.dk hD
        have z12 : M8 69 12 = bitF (fun r => decide (w (191 + 5 * r) = nI p) && ghB w r) x := by rw [m8, ms_ne _ _ _ (by omega)]; exact y12
        have go : ∀ s2 : Int32, (bitF (fun r => decide (w (191 + 5 * r) = nI p) && ghB w r) x ||| s2) = bitF (fun r => decide (w (191 + 5 * r) = nI p) && ghB w r) (x + 1) → P_Judge_open_100 post (P_Judge_open_24 post j) (nI x) (M8 69 12) s2 M8 := by
          intro s2 hs2 M9 m9
          rw [z12, hs2] at m9
          have o9 : ∀ c, c ≠ 69 → M9 c = M7 c := fun c hc => by rw [m9, ms_off _ _ _ hc, o8 c hc]
          have f9 : FrQ M M9 := fun c hc => by rw [o9 c (by omega)]; exact f7 c hc
          have hL9 : LwOK M9 w := hL7.sp (o9 63 (by omega)) (o9 65 (by omega)) (o9 66 (by omega)) (by rw [o9 67 (by omega), o9 68 (by omega)]; exact hL7.2.2.2.2)
          refine s_C_putSpan (t := 0) (f9.dk hD) hI hL9 hx24 (by omega) (fun M10 g1 hL10 hrows => ?_)
          unfold P_Judge_open_110
          rw [nI_1]
          have e69 : M10 69 = M9 69 := g1 69 (by omega)
          refine ih M10 (fun c hc => by rw [g1 c (by omega)]; exact f9 c hc) hL10 ?_ ?_ ?_ (fun r hr => ?_)
          · rw [e69, m9, ms_ne _ _ _ (by omega), m8, ms_ne _ _ _ (by omega)]; exact y10
          · rw [e69, m9, ms_ne _ _ _ (by omega), m8, ms_at]; simp only [bitF, decide_eq_true c, if_true]
          · rw [e69, m9, ms_at]
          · rw [hrows.1, hrows.2]
            by_cases e : r = x
            · rw [e, upd_eq, upd_eq]
              by_cases hpos : 0 < toA w 0
              · left; rw [if_pos hpos, if_pos hpos]; exact ⟨c, hpos, (elo x).symm, (ehi x).symm⟩
              · right; rw [if_neg hpos, if_neg hpos]; exact ⟨fun q => hpos q.2, rfl, rfl⟩
            · rw [upd_ne _ _ e, upd_ne _ _ e, o9 70 (by omega), o9 71 (by omega), r70, r71, upd_ne _ _ e, upd_ne _ _ e]
              exact hrow r (by omega)
        refine s_C_ghost hD8 hI hx24 (b0n (fun c2 => go 0 ?_) (fun c2 => go _ ?_))
        · rw [Int32.or_zero]; simp only [bitF, c2, Bool.and_false, Bool.false_eq_true, if_false]
        · simp only [bitF, decide_eq_true c, c2, Bool.and_self, if_true]
  obtain ⟨j, hj⟩ := key
  exact ⟨j, hj M4 FQ4 hL4 e10 e11 e12 (fun r hr => by omega)⟩
/-! sets of elements as bits -/
theorem s_C_has {post : Int32 → Mem → Prop} {x : Int32} {e : Nat} {M : Mem} (h : post (bi (tb x e)) M) : P_R_has post x (nI e) M := by
  unfold tb at h
  refine ⟨fun c => ?_, fun c => ?_⟩
  · rw [decide_eq_false c] at h; exact ⟨Or.inl rfl, h⟩
  · rw [decide_eq_true c] at h; exact ⟨Or.inr rfl, h⟩
theorem s_C_airBits {post : Int32 → Mem → Prop} {w : Nat → Int32} {M : Mem} (hD : Dk 1 M w) (hI : WInv w) (h : post (bitF (airB w) (nn (w 7))) M) : P_Table_airBits post M := by
  obtain ⟨hn, hn6⟩ := hI.ne
  refine lpN (R := fun j e => P_Table_airBits_4 post j (bitF (airB w) e) (nI e) M) (N := nn (w 7)) (fun j => brSt (by rw [hD.ne]; exact hn) h) (fun j e he ih => brGo (by rw [hD.ne]; exact hn) (by omega) he ?_)
  have he6 : e < 6 := by omega
  have ha := airB_iff hI he6
  rw [nI_clamp (by omega), hD.air he6]
  refine ⟨vin_nI he6 (by omega), fun c => ?_, fun c x1 e1 => ?_⟩
  · have : airB w e = false := by cases hq : airB w e with
      | false => rfl
      | true => exact absurd c (ha.mp hq)
    simp only [bitF, this, Bool.false_eq_true, if_false] at ih
    unfold P_Table_airBits_27
    rw [nI_1]; exact ih
  · simp only [bitF, ha.mpr c, if_true] at ih
    unfold P_Table_airBits_27
    rw [nI_1, e1]; exact ih
/-- a set with air, without air -/
def wA (w : Nat → Int32) (set : Int32) : Int32 := (set &&& (((1 : Int32) <<< (nI (nn (w 7)) &&& 31)) - 1)) ||| bitF (airB w) (nn (w 7))
def woA (w : Nat → Int32) (set : Int32) : Int32 := (set &&& (((1 : Int32) <<< (nI (nn (w 7)) &&& 31)) - 1)) &&& (bitF (airB w) (nn (w 7)) ^^^ (-1))
theorem s_C_withAir {post : Int32 → Mem → Prop} {w : Nat → Int32} {set : Int32} {M : Mem} (hD : Dk 1 M w) (hI : WInv w) (h : post (wA w set) M) : P_Table_withAir post set M := by
  refine s_C_airBits hD hI (fun v e => ?_)
  have e2 : M 13 4 = nI (nn (w 7)) := by rw [hD.ne]; exact hI.ne.1
  rw [e2] at e
  rw [e]; exact h
theorem s_C_withoutAir {post : Int32 → Mem → Prop} {w : Nat → Int32} {set : Int32} {M : Mem} (hD : Dk 1 M w) (hI : WInv w) (h : post (woA w set) M) : P_Table_withoutAir post set M := by
  refine s_C_airBits hD hI (fun v e => ?_)
  have e2 : M 13 4 = nI (nn (w 7)) := by rw [hD.ne]; exact hI.ne.1
  rw [e2] at e
  rw [e]; exact h
theorem gb_low {n e : Nat} (hn : n ≤ 6) (he : e < 32) : gb ((1 : Int32) <<< (nI n &&& 31) - 1) e = decide (e < n) := by
  have : ∀ n : Fin 7, ∀ e : Fin 32, gb ((1 : Int32) <<< (nI n.1 &&& 31) - 1) e.1 = decide (e.1 < n.1) := by decide +kernel
  exact this ⟨n, by omega⟩ ⟨e, he⟩
theorem gb_wA {w : Nat → Int32} (hI : WInv w) {set : Int32} {e : Nat} (he : e < 32) : gb (wA w set) e = (decide (e < nn (w 7)) && inS w set e) := by
  have h6 := hI.ne.2
  unfold wA inS
  rw [gb_or, gb_and, gb_low h6 he, bitF_gb _ _ (by omega) e he, tb_gb he]
  cases decide (e < nn (w 7)) <;> cases airB w e <;> cases gb set e <;> rfl
theorem gb_woA {w : Nat → Int32} (hI : WInv w) {set : Int32} {e : Nat} (he : e < 32) : gb (woA w set) e = (decide (e < nn (w 7)) && (tb set e && !airB w e)) := by
  have h6 := hI.ne.2
  unfold woA
  rw [gb_and, gb_and, gb_low h6 he, gb_not _ he, bitF_gb _ _ (by omega) e he, tb_gb he]
  cases decide (e < nn (w 7)) <;> cases airB w e <;> cases gb set e <;> rfl
theorem tb_wA {w : Nat → Int32} (hI : WInv w) {set : Int32} {e : Nat} (he : e < nn (w 7)) : tb (wA w set) e = inS w set e := by
  have h6 := hI.ne.2
  rw [tb_gb (by omega), gb_wA hI (by omega), decide_eq_true he, Bool.true_and]
theorem tb_woA {w : Nat → Int32} (hI : WInv w) {set : Int32} {e : Nat} (he : e < nn (w 7)) : tb (woA w set) e = (tb set e && !airB w e) := by
  have h6 := hI.ne.2
  rw [tb_gb (by omega), gb_woA hI (by omega), decide_eq_true he, Bool.true_and]
theorem tb_one {k e : Nat} (hk : k < 32) (he : e < 32) : tb ((1 : Int32) <<< (nI k &&& 31)) e = decide (e = k) := by rw [tb_gb he, gb_shl hk he]
/-! readings that hold a wave; a survey of lines -/
section SURVEY
variable {w lo hi : Nat → Int32} {p : Nat} {M : Mem}
theorem s_C_holders {post : Int32 → Mem → Prop} {v : Int32} (hD : Dk 1 M w) (hI : WInv w) (hit : ∀ r, r < nn (w 9) → ∀ v, inb v (M 70 r) (M 71 r) = htB w lo hi p r v) (h : post (bitF (fun r => htB w lo hi p r v) (nn (w 9))) M) : P_Judge_holders post v M := by
  obtain ⟨hn, hn24⟩ := hI.nr
  refine lpN (R := fun j r => P_Judge_holders_4 post j v (bitF (fun r => htB w lo hi p r v) r) (nI r) M) (N := nn (w 9)) (fun j => brSt (by rw [hD.nr]; exact hn) h) (fun j r hr ih => brGo (by rw [hD.nr]; exact hn) (by omega) hr ⟨vin_nI (by omega) (by omega), vin_nI (by omega) (by omega), s_R_within ?_⟩)
  rw [nI_clamp (by omega), hit r hr v]
  refine b0n (fun c => ?_) (fun c x2 e2 => ?_)
  · simp only [bitF, c, Bool.false_eq_true, if_false] at ih
    unfold P_Judge_holders_43
    rw [nI_1]; exact ih
  · simp only [bitF, c, if_true] at ih
    unfold P_Judge_holders_43
    rw [nI_1, e2]; exact ih
/-- which readings the lines of these elements lie in -/
def cvB (w lo hi : Nat → Int32) (p : Nat) (el speed : Int32) (r : Nat) : Bool := anyB (fun e => tb el e && anyB (fun l => htB w lo hi p r (shf w e l speed)) (nn (w (93 + 14 * e)))) (nn (w 7))
/-- lines of these elements that must be seen and aren't -/
def msL (w lo hi : Nat → Int32) (p : Nat) (el speed : Int32) (e l : Nat) : Bool := tb el e && !anyB (fun r => htB w lo hi p r (shf w e l speed)) (nn (w 9)) && moB w p e l speed
def msS (w lo hi : Nat → Int32) (p : Nat) (el speed : Int32) : Nat := sumN (fun e => cntB (msL w lo hi p el speed e) (nn (w (93 + 14 * e)))) (nn (w 7))
def FrV (M M' : Mem) : Prop := (∀ c, c ≠ 69 → M' c = M c) ∧ ∀ k, k ≠ 13 → k ≠ 14 → M' 69 k = M 69 k
theorem FrV.t {M M' : Mem} (h : FrV M M') : FrT M M' := ⟨fun c hc => h.1 c (by omega), fun k hk => h.2 k (by omega) (by omega)⟩
theorem s_C_survey {post : Mem → Prop} {el speed : Int32} (hD : Dk 1 M w) (hI : WInv w) (hp : p < 3) (h10 : M 69 10 = nI p) (hit : ∀ r, r < nn (w 9) → ∀ v, inb v (M 70 r) (M 71 r) = htB w lo hi p r v)
    (h : ∀ M', FrV M M' → M' 69 13 = bitF (cvB w lo hi p el speed) (nn (w 9)) → M' 69 14 = nI (msS w lo hi p el speed) → post M') : P_Judge_survey post el speed M := by
  obtain ⟨hn, hn24⟩ := hI.nr
  obtain ⟨hne, hne6⟩ := hI.ne
  intro M1 m1 M2 m2
  unfold cvB msS at h
  have key : ∃ j, ∀ M3, FrV M M3 → M3 69 13 = bitF (fun r => anyB (fun e => tb el e && anyB (fun l => htB w lo hi p r (shf w e l speed)) (nn (w (93 + 14 * e)))) 0) (nn (w 9)) → M3 69 14 = nI (sumN (fun e => cntB (msL w lo hi p el speed e) (nn (w (93 + 14 * e)))) 0) → P_Judge_survey_12 post j el speed (nI 0) M3 := by
    refine lpN (R := fun j e => ∀ M3, FrV M M3 → M3 69 13 = bitF (fun r => anyB (fun e => tb el e && anyB (fun l => htB w lo hi p r (shf w e l speed)) (nn (w (93 + 14 * e)))) e) (nn (w 9)) → M3 69 14 = nI (sumN (fun e => cntB (msL w lo hi p el speed e) (nn (w (93 + 14 * e)))) e) → P_Judge_survey_12 post j el speed (nI e) M3) (N := nn (w 7)) (fun j M3 f3 a3 b3 => ?_) (fun j e he ih M3 f3 a3 b3 => ?_)
    · have hD3 := f3.t.dk hD
      exact brSt (by rw [hD3.ne]; exact hne) (h M3 f3 a3 b3)
    · have hD3 := f3.t.dk hD
      have he6 : e < 6 := by omega
      obtain ⟨hl, hl6⟩ := hI.nl he6
      refine brGo (by rw [hD3.ne]; exact hne) (by omega) he ?_
      by_cases hte : tb el e = true
      · have inner : ∃ q, ∀ M4, FrV M M4 → M4 69 13 = bitF (fun r => anyB (fun e => tb el e && anyB (fun l => htB w lo hi p r (shf w e l speed)) (nn (w (93 + 14 * e)))) e || anyB (fun l => htB w lo hi p r (shf w e l speed)) 0) (nn (w 9)) → M4 69 14 = nI (sumN (fun e => cntB (msL w lo hi p el speed e) (nn (w (93 + 14 * e)))) e + cntB (msL w lo hi p el speed e) 0) → P_Judge_survey_29 post (P_Judge_survey_12 post j) q el speed (nI e) (nI 0) M4 := by
          refine lpN (R := fun q l => ∀ M4, FrV M M4 → M4 69 13 = bitF (fun r => anyB (fun e => tb el e && anyB (fun l => htB w lo hi p r (shf w e l speed)) (nn (w (93 + 14 * e)))) e || anyB (fun l => htB w lo hi p r (shf w e l speed)) l) (nn (w 9)) → M4 69 14 = nI (sumN (fun e => cntB (msL w lo hi p el speed e) (nn (w (93 + 14 * e)))) e + cntB (msL w lo hi p el speed e) l) → P_Judge_survey_29 post (P_Judge_survey_12 post j) q el speed (nI e) (nI l) M4) (N := nn (w (93 + 14 * e))) (fun q M4 f4 a4 b4 => ?_) (fun q l hl2 ih2 M4 f4 a4 b4 => ?_)
          · have hD4 := f4.t.dk hD
            refine s_C_has ?_
            rw [hte]
            refine ⟨fun c => absurd c (by decide), fun _ => ⟨vin_nI he6 (by omega), ?_⟩⟩
            rw [nI_clamp (by omega), hD4.nl he6]
            refine brSt hl ?_
            unfold P_Judge_survey_147
            rw [nI_1]
            refine ih M4 f4 ?_ ?_
            · rw [a4]; simp only [anyB, hte, Bool.true_and]
            · rw [b4]; rfl
          · have hD4 := f4.t.dk hD
            have hl6' : l < 6 := by omega
            refine s_C_has ?_
            rw [hte]
            refine ⟨fun c => absurd c (by decide), fun _ => ⟨vin_nI he6 (by omega), ?_⟩⟩
            rw [nI_clamp (by omega), hD4.nl he6]
            refine brGo hl (by omega) hl2 (s_C_liesAt hD4 hI he6 hl6' (s_C_holders (lo := lo) (hi := hi) (p := p) hD4 hI (fun r hr v => by rw [f4.1 70 (by omega), f4.1 71 (by omega)]; exact hit r hr v) (fun M5 m5 => ?_)))
            rw [a4, bitF_or (by omega)] at m5
            have f5 : FrV M M5 := ⟨fun c hc => by rw [m5, ms_off _ _ _ hc]; exact f4.1 c hc, fun k h1 h2 => by rw [m5, ms_ne _ _ _ h1]; exact f4.2 k h1 h2⟩
            have hD5 := f5.t.dk hD
            have a5 : M5 69 13 = bitF (fun r => anyB (fun e => tb el e && anyB (fun l => htB w lo hi p r (shf w e l speed)) (nn (w (93 + 14 * e)))) e || anyB (fun l => htB w lo hi p r (shf w e l speed)) (l + 1)) (nn (w 9)) := by
              rw [m5, ms_at]
              exact bitF_congr (fun r _ => by simp only [anyB, Bool.or_assoc])
            have b5 : M5 69 14 = nI (sumN (fun e => cntB (msL w lo hi p el speed e) (nn (w (93 + 14 * e)))) e + cntB (msL w lo hi p el speed e) l) := by rw [m5, ms_ne _ _ _ (by omega)]; exact b4
            have hz := bitF_0 (p := fun r => htB w lo hi p r (shf w e l speed)) (n := nn (w 9)) (by omega)
            have hany : anyB (fun r => htB w lo hi p r (shf w e l speed)) (nn (w 9)) = false ↔ bitF (fun r => htB w lo hi p r (shf w e l speed)) (nn (w 9)) = 0 := by rw [hz, anyB_f]
            have keep : msL w lo hi p el speed e l = false → P_Judge_survey_141 post (P_Judge_survey_12 post j) (P_Judge_survey_29 post (P_Judge_survey_12 post j) q) el speed (nI e) (nI l) M5 := by
              intro hm
              unfold P_Judge_survey_141
              rw [nI_1]
              refine ih2 M5 f5 a5 ?_
              rw [b5]; simp only [cntB, hm, Bool.false_eq_true, if_false, Nat.add_zero]
            refine ⟨fun c => keep ?_, fun c => ?_⟩
            · have : anyB (fun r => htB w lo hi p r (shf w e l speed)) (nn (w 9)) = true := by
                cases hq : anyB (fun r => htB w lo hi p r (shf w e l speed)) (nn (w 9)) with
                | true => rfl
                | false => exact absurd (hany.mp hq) c
              unfold msL; rw [this]; simp
            · have hno := hany.mpr c
              rw [at6, nI_clamp (by omega), hD5.st he6 hl6']
              refine ⟨vin_nI (by omega) (by omega), ?_⟩
              have e10 : M5 69 10 = nI p := by rw [f5.2 10 (by omega) (by omega)]; exact h10
              rw [e10]
              refine s_C_mustShow hD5 hp ?_
              have emo : msL w lo hi p el speed e l = (inb (shf w e l speed) (w (178 + 5 * p)) (w (179 + 5 * p)) && decide (¬ (w (95 + 14 * e + 2 * l) * w (176 + 5 * p)) * w (177 + 5 * p) < 30)) := by
                unfold msL; rw [hte, hno]; unfold moB msB; simp
              rw [← emo]
              refine b0n (fun c2 => keep c2) (fun c2 M6 m6 => ?_)
              rw [b5, nI_1] at m6
              unfold P_Judge_survey_141
              rw [nI_1]
              refine ih2 M6 ⟨fun c hc => by rw [m6, ms_off _ _ _ hc]; exact f5.1 c hc, fun k h1 h2 => by rw [m6, ms_ne _ _ _ h2]; exact f5.2 k h1 h2⟩ (by rw [m6, ms_ne _ _ _ (by omega)]; exact a5) ?_
              rw [m6, ms_at]; simp only [cntB, c2, if_true]; rfl
        obtain ⟨q, hq⟩ := inner
        refine ⟨q, hq M3 f3 ?_ ?_⟩
        · rw [a3]; exact bitF_congr (fun r _ => by simp only [anyB, Bool.or_false])
        · rw [b3]; rfl
      · have hte : tb el e = false := by simpa using hte
        refine ⟨1, s_C_has ?_⟩
        rw [hte]
        refine ⟨fun _ => ?_, fun c => absurd (by decide) c⟩
        unfold P_Judge_survey_147
        rw [nI_1]
        refine ih M3 f3 ?_ ?_
        · rw [a3]; exact bitF_congr (fun r _ => by simp only [anyB, hte, Bool.false_and, Bool.or_false])
        · rw [b3]
          have hz : cntB (msL w lo hi p el speed e) (nn (w (93 + 14 * e))) = 0 := by
            generalize nn (w (93 + 14 * e)) = k
            induction k with
            | zero => rfl
            | succ k ih => simp only [cntB, ih]; unfold msL; rw [hte]; rfl
          simp only [sumN, hz, Nat.add_zero]
  obtain ⟨j, hj⟩ := key
  refine ⟨j, hj M2 ⟨fun c hc => by rw [m2, ms_off _ _ _ hc, m1, ms_off _ _ _ hc], fun k h1 h2 => by rw [m2, ms_ne _ _ _ h2, m1, ms_ne _ _ _ h1]⟩ ?_ ?_⟩
  · rw [m2, ms_ne _ _ _ (by omega), m1, ms_at]
    exact (bitF_0 (by omega)).mpr (fun _ _ => rfl) |>.symm
  · rw [m2, ms_at]; rfl
end SURVEY
