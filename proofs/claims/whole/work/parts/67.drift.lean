/-! THE CLASS: drift -/
section DRIFT
variable {w lo hi : Nat → Int32} {p : Nat} {M : Mem}
theorem in10 (v : Int32) : inb v 1 0 = false := by
  simp only [inb, decide_eq_false_iff_not, leI]
  have e0 : (0 : Int32).toInt = 0 := rfl
  have e1 : (1 : Int32).toInt = 1 := rfl
  omega
/-- a plate is open, its spans wherever they drifted -/
def JA (M : Mem) (w : Nat → Int32) (p : Nat) : Prop :=
  Dk 1 M w ∧ LwOK M w ∧ M 69 10 = nI p ∧ M 69 11 = bitF (fun r => decide (w (191 + 5 * r) = nI p)) (nn (w 9)) ∧ M 69 12 = bitF (fun r => decide (w (191 + 5 * r) = nI p) && ghB w r) (nn (w 9)) ∧
  ∀ r, r < nn (w 9) → ¬ w (191 + 5 * r) = nI p → M 70 r = 1 ∧ M 71 r = 0
theorem JC.a (h : JC M w p lo hi) : JA M w p := by
  refine ⟨h.1, h.2.1, h.2.2.1.1, h.2.2.1.2.1, h.2.2.1.2.2.1, fun r hr hq => ?_⟩
  rcases h.2.2.1.2.2.2 r hr with ⟨h1, _⟩ | ⟨_, h3, h4⟩
  · exact absurd h1 hq
  · exact ⟨h3, h4⟩
theorem JA.t {M' : Mem} (h : JA M w p) (f : FrT M M') : JA M' w p := by
  obtain ⟨h1, h2, h3, h4, h5, h6⟩ := h
  refine ⟨f.dk h1, ?_, by rw [f.2 10 (by omega)]; exact h3, by rw [f.2 11 (by omega)]; exact h4, by rw [f.2 12 (by omega)]; exact h5, by rw [f.1 70 (by omega), f.1 71 (by omega)]; exact h6⟩
  unfold LwOK at *
  rw [f.1 63 (by omega), f.1 65 (by omega), f.1 66 (by omega), f.1 67 (by omega), f.1 68 (by omega)]; exact h2
theorem s_C_adrift {post : Int32 → Mem → Prop} {set : Int32} {t : Int} (hA : JA M w p) (hI : WInv w) (hp : p < 3) (ht : -30 ≤ t ∧ t ≤ 30) (hS : SpOK w (nI p) t lo hi (nn (w 9)))
    (h : ∀ M', FrQ M M' → JA M' w p → post (bi (exB w lo hi p set 0)) M') : P_Judge_isExplainedAdrift post set (I t) M := by
  obtain ⟨hn, hn24⟩ := hI.nr
  have hsp : ∀ r, r < nn (w 9) → spB lo hi r = decide (0 < toA w 0) := fun r hr => sp_B hI ht hS hr
  refine s_C_withAir hA.1 hI ?_
  have key : ∃ j, ∀ M1, FrQ M M1 → JA M1 w p → (∀ r, r < 0 → ∀ v, inb v (M1 70 r) (M1 71 r) = htB w lo hi p r v) → (∀ r, r < 0 → lfB w lo hi (nI p) set 0 r = false) → P_Judge_isExplainedAdrift_15 post j (I t) (wA w set) (nI 0) M1 := by
    refine lpN (R := fun j x => ∀ M1, FrQ M M1 → JA M1 w p → (∀ r, r < x → ∀ v, inb v (M1 70 r) (M1 71 r) = htB w lo hi p r v) → (∀ r, r < x → lfB w lo hi (nI p) set 0 r = false) → P_Judge_isExplainedAdrift_15 post j (I t) (wA w set) (nI x) M1) (N := nn (w 9)) (fun j M1 f1 hA1 hit hlf => ?_) (fun j x hx ih M1 f1 hA1 hit hlf => ?_)
    · refine brSt (by rw [hA1.1.nr]; exact hn) (s_C_survey (lo := lo) (hi := hi) hA1.1 hI hp hA1.2.2.1 hit (fun M2 f2 a2 b2 => ?_))
      have h := h M2 (f1.trans f2.t.q) (hA1.t f2.t)
      have hz : lfA w lo hi (nI p) set 0 = 0 := (bitF_0 (by omega)).mpr hlf
      unfold exB at h
      rw [decide_eq_true hz, Bool.true_and] at h
      have hmb := miS_le (w := w) (lo := lo) (hi := hi) (p := p) (set := set) (speed := 0) hI
      rw [b2, miss_eq hI]
      refine ⟨fun c => ?_, fun c => ?_⟩
      · rw [decide_eq_false (fun q => c (by rw [q]; rfl))] at h; exact ⟨Or.inl rfl, h⟩
      · have c2 : miS w lo hi p set 0 = 0 := by
          generalize miS w lo hi p set 0 = G at *
          rw [← nI_0, nI_eq (by omega) (by omega)] at c; exact c
        rw [decide_eq_true c2] at h; exact ⟨Or.inr rfl, h⟩
    · have hD1 := hA1.1
      refine brGo (by rw [hD1.nr]; exact hn) (by omega) hx (s_C_has ?_)
      rw [hA1.2.2.2.1, tb_gb (by omega), bitF_gb _ _ (by omega) x (by omega), decide_eq_true hx, Bool.true_and]
      refine b0n (fun c => ?_) (fun c => ?_)
      · have hq : ¬ w (191 + 5 * x) = nI p := of_decide_eq_false c
        unfold P_Judge_isExplainedAdrift_73
        rw [nI_1]
        refine ih M1 f1 hA1 (fun r hr v => ?_) (fun r hr => ?_)
        · by_cases q : r = x
          · subst q
            rw [(hA1.2.2.2.2.2 r hx hq).1, (hA1.2.2.2.2.2 r hx hq).2, in10]
            unfold htB; rw [c]; rfl
          · exact hit r (by omega) v
        · by_cases q : r = x
          · subst q; unfold lfB; rw [c]; rfl
          · exact hlf r (by omega)
      · have hq : w (191 + 5 * x) = nI p := of_decide_eq_true c
        refine s_C_putSpan hD1 hI hA1.2.1 (by omega) ht (fun M3 f3 hL3 ⟨e70, e71⟩ => ?_)
        have epl : plZ w (nI p) t x = (tpl w (w (192 + 5 * x)) (w (193 + 5 * x))).toInt + t := by unfold plZ; rw [if_pos hq]
        rw [← epl, ← (hS x hx).1] at e70
        rw [← epl, ← (hS x hx).2] at e71
        have hitx : ∀ v, inb v (M3 70 x) (M3 71 x) = htB w lo hi p x v := by
          intro v
          rw [e70, e71, upd_eq, upd_eq]
          unfold htB inB
          rw [c, hsp x hx]
          by_cases hpos : 0 < toA w 0
          · rw [if_pos hpos, if_pos hpos, decide_eq_true hpos]; rfl
          · rw [if_neg hpos, if_neg hpos, decide_eq_false hpos, in10]; rfl
        have hA3 : JA M3 w p := by
          refine ⟨hD1.off (fun c h1 h2 => f3 c (by omega)), hL3, by rw [f3 69 (by omega)]; exact hA1.2.2.1, by rw [f3 69 (by omega)]; exact hA1.2.2.2.1, by rw [f3 69 (by omega)]; exact hA1.2.2.2.2.1, fun r hr hnq => ?_⟩
          have : r ≠ x := fun q => hnq (by rw [q]; exact hq)
          rw [e70, e71, upd_ne _ _ this, upd_ne _ _ this]
          exact hA1.2.2.2.2.2 r hr hnq
        have F3 : FrQ M M3 := f1.trans (fun c hc => f3 c (by omega))
        have go : lfB w lo hi (nI p) set 0 x = false → P_Judge_isExplainedAdrift_73 post (P_Judge_isExplainedAdrift_15 post j) (I t) (wA w set) (nI x) M3 := fun hf => by
          unfold P_Judge_isExplainedAdrift_73
          rw [nI_1]
          refine ih M3 F3 hA3 (fun r hr v => ?_) (fun r hr => ?_)
          · by_cases q : r = x
            · subst q; exact hitx v
            · rw [e70, e71, upd_ne _ _ q, upd_ne _ _ q]; exact hit r (by omega) v
          · by_cases q : r = x
            · subst q; exact hf
            · exact hlf r (by omega)
        have hlfx : lfB w lo hi (nI p) set 0 x = (!ghB w x && decide (lnS w lo hi x set 0 false = 0)) := by unfold lfB; rw [c]; rfl
        refine s_C_has ?_
        rw [hA3.2.2.2.2.1, tb_gb (by omega), bitF_gb _ _ (by omega) x (by omega), decide_eq_true hx, Bool.true_and, c, Bool.true_and]
        refine bn0 (fun c2 => ?_) (fun c2 => go (by rw [hlfx, c2]; rfl))
        refine s_C_linesInside (lo := lo) (hi := hi) (p := p) hA3.1 hI hx hitx ?_
        rw [li_on hI hq]
        have hle := lnS_le (lo := lo) (hi := hi) (r := x) (set := set) (speed := 0) (el := false) hI
        refine ⟨fun c3 => go ?_, fun c3 => ?_⟩
        · rw [hlfx, decide_eq_false (fun q => c3 (by rw [q]; rfl)), Bool.and_false]
        · have c4 : lnS w lo hi x set 0 false = 0 := by
            generalize lnS w lo hi x set 0 false = G at *
            rw [← nI_0, nI_eq (by omega) (by omega)] at c3; exact c3
          have hne : ¬ lfA w lo hi (nI p) set 0 = 0 := by
            intro q
            have := (bitF_0 (by omega)).mp q x hx
            rw [hlfx, c2, decide_eq_true c4] at this; cases this
          have h := h M3 F3 hA3
          unfold exB at h
          rw [decide_eq_false hne] at h; exact h
  obtain ⟨j, hj⟩ := key
  exact ⟨j, hj M (FrQ.refl M) hA (fun r hr => by omega) (fun r hr => by omega)⟩
/-! outward and from the least on -/
theorem jabs_I {z : Int} (hz : -99 ≤ z ∧ z ≤ 99) : jabs (I z) = I (z.natAbs) := by
  unfold jabs
  have hq : (0 : Int32) ≤ I z ↔ 0 ≤ z := by rw [show (0 : Int32) = I 0 from rfl, I_le (by omega) (by omega)]
  by_cases q : 0 ≤ z
  · rw [if_pos (hq.mpr q)]; congr 1; omega
  · rw [if_neg (fun e => q (hq.mp e)), I_neg]; congr 1; omega
theorem df_cnt {dx : Int → Bool} : ∀ n, (dfF dx n).1 = cntB (fun t => dx ((t : Int) - 30)) n
  | 0 => rfl
  | n + 1 => by
    have ih := df_cnt (dx := dx) n
    simp only [dfF, cntB]
    by_cases c : dx ((n : Int) - 30) = true
    · rw [if_pos c, if_pos c, ih]
    · rw [if_neg c, if_neg c, ih]; rfl
theorem df_near {dx : Int → Bool} : ∀ n : Nat, n ≤ 61 → ((∀ t : Nat, t < n → dx ((t : Int) - 30) = false) ∧ (dfF dx n).2 = 99) ∨ ∃ t0 : Nat, t0 < n ∧ dx ((t0 : Int) - 30) = true ∧ (dfF dx n).2 = I ((t0 : Int) - 30) ∧ ∀ t : Nat, t < n → dx ((t : Int) - 30) = true → ((t0 : Int) - 30).natAbs < ((t : Int) - 30).natAbs ∨ (((t0 : Int) - 30).natAbs = ((t : Int) - 30).natAbs ∧ t0 ≤ t)
  | 0, _ => Or.inl ⟨fun t ht => by omega, rfl⟩
  | n + 1, hn => by
    have ih := df_near (dx := dx) n (by omega)
    simp only [dfF]
    by_cases c : dx ((n : Int) - 30) = true
    · right
      rw [if_pos c]
      simp only []
      rcases ih with ⟨h1, h2⟩ | ⟨t0, h1, h2, h3, h4⟩
      · have hno : ¬ jabs (dfF dx n).2 ≤ jabs (I ((n : Int) - 30)) := by
          rw [h2, show (99 : Int32) = I 99 from rfl, jabs_I (by omega), jabs_I (by omega), I_le (by omega) (by omega)]; omega
        rw [if_neg hno]
        refine ⟨n, by omega, c, rfl, fun t ht hd => ?_⟩
        by_cases q : t = n
        · subst q; right; exact ⟨rfl, Nat.le_refl _⟩
        · rw [h1 t (by omega)] at hd; cases hd
      · have hiff : jabs (dfF dx n).2 ≤ jabs (I ((n : Int) - 30)) ↔ ((((t0 : Int) - 30).natAbs : Nat) : Int) ≤ (((n : Int) - 30).natAbs : Nat) := by
          rw [h3, jabs_I (by omega), jabs_I (by omega), I_le (by omega) (by omega)]
        by_cases q2 : ((((t0 : Int) - 30).natAbs : Nat) : Int) ≤ (((n : Int) - 30).natAbs : Nat)
        · rw [if_pos (hiff.mpr q2)]
          refine ⟨t0, by omega, h2, h3, fun t ht hd => ?_⟩
          by_cases q : t = n
          · subst q; omega
          · exact h4 t (by omega) hd
        · rw [if_neg (fun e => q2 (hiff.mp e))]
          refine ⟨n, by omega, c, rfl, fun t ht hd => ?_⟩
          by_cases q : t = n
          · subst q; right; exact ⟨rfl, Nat.le_refl _⟩
          · have := h4 t (by omega) hd; omega
    · have c : dx ((n : Int) - 30) = false := by simpa using c
      rw [if_neg (by rw [c]; decide)]
      rcases ih with ⟨h1, h2⟩ | ⟨t0, h1, h2, h3, h4⟩
      · left
        refine ⟨fun t ht => ?_, h2⟩
        by_cases q : t = n
        · subst q; exact c
        · exact h1 t (by omega)
      · right
        refine ⟨t0, by omega, h2, h3, fun t ht hd => ?_⟩
        by_cases q : t = n
        · subst q; rw [c] at hd; cases hd
        · exact h4 t (by omega) hd
theorem ow_bd {n : Nat} (hn : n < 61) : -30 ≤ owZ n ∧ owZ n ≤ 30 := by unfold owZ; split <;> omega
theorem df_ow {dx : Int → Bool} : frF (fun n k => if dx (owZ n) then I (owZ n) else k) 99 61 0 = (dfF dx 61).2 := by
  rcases df_near (dx := dx) 61 (Nat.le_refl _) with ⟨h1, h2⟩ | ⟨t0, h1, h2, h3, h4⟩
  · rw [h2]
    refine frF_never _ _ (fun j h5 h6 => ?_)
    have hb := ow_bd (n := j) (by omega)
    have := h1 (owZ j + 30).toNat (by omega)
    rw [show (((owZ j + 30).toNat : Nat) : Int) - 30 = owZ j by omega] at this
    funext k; rw [this]; rfl
  · rw [h3]
    obtain ⟨x1, hx1, hx2⟩ : ∃ x1, x1 < 61 ∧ owZ x1 = (t0 : Int) - 30 := by
      by_cases q : (t0 : Int) - 30 < 0
      · refine ⟨2 * (30 - t0) - 1, by omega, ?_⟩
        unfold owZ; rw [if_pos (by omega)]; omega
      · refine ⟨2 * (t0 - 30), by omega, ?_⟩
        unfold owZ; rw [if_neg (by omega)]; omega
    obtain ⟨k', e1⟩ := frF_first (g := fun n k => if dx (owZ n) then I (owZ n) else k) (k := 99) 61 0 x1 (by omega) (by omega) (fun j h5 h6 => by
      have hb := ow_bd (n := j) (by omega)
      cases hd : dx (owZ j) with
      | false => funext k; rfl
      | true =>
        exfalso
        have := h4 (owZ j + 30).toNat (by omega) (by rw [show (((owZ j + 30).toNat : Nat) : Int) - 30 = owZ j by omega]; exact hd)
        rw [show (((owZ j + 30).toNat : Nat) : Int) - 30 = owZ j by omega] at this
        rw [← hx2] at this
        have e2 : ((owZ j + 30).toNat : Int) = owZ j + 30 := by omega
        have e3 : (t0 : Int) = owZ x1 + 30 := by omega
        have h7 : (owZ x1).natAbs < (owZ j).natAbs ∨ ((owZ x1).natAbs = (owZ j).natAbs ∧ owZ x1 ≤ owZ j) := by omega
        clear this e2 e3 hd hx2 h4 h2 h3 hb
        unfold owZ at h7
        revert h7
        split <;> split <;> intro h7 <;> omega)
    rw [e1]
    simp only [hx2, h2, if_true]
theorem cntB_front {f : Nat → Bool} : ∀ n, cntB f (n + 1) = (if f 0 then 1 else 0) + cntB (fun i => f (i + 1)) n
  | 0 => by simp [cntB]
  | n + 1 => by
    have ih := cntB_front (f := f) n
    have e1 : cntB f (n + 1 + 1) = cntB f (n + 1) + if f (n + 1) then 1 else 0 := rfl
    have e2 : cntB (fun i => f (i + 1)) (n + 1) = cntB (fun i => f (i + 1)) n + if f (n + 1) then 1 else 0 := rfl
    omega
theorem ow_cnt {dx : Int → Bool} : ∀ k, cntB (fun n => dx (owZ n)) (2 * k + 1) = cntB (fun i : Nat => dx ((i : Int) - k)) (2 * k + 1)
  | 0 => rfl
  | k + 1 => by
    have ih := ow_cnt (dx := dx) k
    have o1 : owZ (2 * k + 1) = -((k : Int) + 1) := by unfold owZ; rw [if_pos (by omega)]; omega
    have o2 : owZ (2 * k + 1 + 1) = (k : Int) + 1 := by unfold owZ; rw [if_neg (by omega)]; omega
    have e1 : cntB (fun n => dx (owZ n)) (2 * k + 1 + 1 + 1) = cntB (fun n => dx (owZ n)) (2 * k + 1) + (if dx (owZ (2 * k + 1)) then 1 else 0) + (if dx (owZ (2 * k + 1 + 1)) then 1 else 0) := rfl
    have e2 := cntB_front (f := fun i : Nat => dx ((i : Int) - ((k + 1 : Nat) : Int))) (2 * k + 1 + 1)
    have e3 : cntB (fun i : Nat => dx (((i + 1 : Nat) : Int) - ((k + 1 : Nat) : Int))) (2 * k + 1 + 1) = cntB (fun i : Nat => dx ((i : Int) - k)) (2 * k + 1 + 1) := cntB_congr (fun i _ => by congr 1; omega)
    have e4 : cntB (fun i : Nat => dx ((i : Int) - k)) (2 * k + 1 + 1) = cntB (fun i : Nat => dx ((i : Int) - k)) (2 * k + 1) + (if dx (((2 * k + 1 : Nat) : Int) - k) then 1 else 0) := rfl
    have e5 : (((2 * k + 1 : Nat) : Int) - k) = (k : Int) + 1 := by omega
    have e6 : (((0 : Nat) : Int) - ((k + 1 : Nat) : Int)) = -((k : Int) + 1) := by omega
    rw [show 2 * (k + 1) + 1 = 2 * k + 1 + 1 + 1 by omega, e1, e2, ih, o1, o2]
    simp only [e6]
    rw [e3, e4, e5]
    omega
theorem s_R_drift {post : Int32 → Mem → Prop} {ex : String → Mem → Prop} {p set : Int32} {near : Bool} {dx : Int → Bool} (hD : Dk 1 M w) (hI : WInv w) (hL : Lw M w)
    (hdx : inb p 0 (w 8 - 1) = true → ∀ t lo hi, -30 ≤ t → t ≤ 30 → SpOK w p t lo hi (nn (w 9)) → exB w lo hi (nn p) set 0 = dx t)
    (h : QX post ex M w [IOB] (qp1 (inb p 0 (w 8 - 1)) (if near then (dfF dx 61).2 else nI (dfF dx 61).1))) : P_R_drift post ex p set (bi near) M := by
  have hS : SpOK w (-1) 0 (fun r => I (edZ w (plZ w (-1) 0 r) false)) (fun r => I (edZ w (plZ w (-1) 0 r) true)) (nn (w 9)) := fun r _ => ⟨rfl, rfl⟩
  by_cases hin : inb p 0 (w 8 - 1) = true
  · refine s_qp1' hD hI hL hS h (fun hp hp3 M1 hJ hpost => ?_)
    have hdx := hdx hin
    have hdx' : ∀ t, -30 ≤ t → t ≤ 30 → exB w (fun r => I (edZ w (plZ w p t r) false)) (fun r => I (edZ w (plZ w p t r) true)) (nn p) set 0 = dx t := fun t h1 h2 => hdx t _ _ h1 h2 (fun r _ => ⟨rfl, rfl⟩)
    have hA0 := hJ.a
    have adr : ∀ {B : Int32 → Mem → Prop} {M2 : Mem} {n : Nat}, n < 61 → JA M2 w (nn p) → (∀ M', FrQ M2 M' → JA M' w (nn p) → B (bi (dx (owZ n))) M') → P_Judge_isExplainedAdrift B set (I (owZ n)) M2 := by
      intro B M2 n hn hA2 hB
      have hb := ow_bd hn
      refine s_C_adrift (lo := fun r => I (edZ w (plZ w p (owZ n) r) false)) (hi := fun r => I (edZ w (plZ w p (owZ n) r) true)) hA2 hI hp3 hb (by rw [← hp]; exact fun r _ => ⟨rfl, rfl⟩) ?_
      rw [hdx' (owZ n) hb.1 hb.2]; exact hB
    cases near with
    | false =>
      simp only [Bool.false_eq_true, if_false] at hpost
      have ecnt : (dfF dx 61).1 = cntB (fun n => dx (owZ n)) 61 := by
        rw [df_cnt]; exact (ow_cnt (dx := dx) 30).symm
      rw [ecnt] at hpost
      have key : ∃ j, ∀ M2, FrQ M1 M2 → JA M2 w (nn p) → P_R_drift_19 post ex j set (bi false) (nI (cntB (fun n => dx (owZ n)) 0)) (nI 0) M2 := by
        refine lpN (R := fun j n => ∀ M2, FrQ M1 M2 → JA M2 w (nn p) → P_R_drift_19 post ex j set (bi false) (nI (cntB (fun n => dx (owZ n)) n)) (nI n) M2) (N := 61) (fun j M2 f2 hA2 => ?_) (fun j n hn ih M2 f2 hA2 => ?_)
        · exact ⟨fun _ => ⟨fun _ => hpost M2 f2 (Or.inr hA2.2.1), fun c => absurd rfl c⟩, fun q => absurd (show (60 : Int32) < nI 61 by decide) q⟩
        · refine ⟨fun q => ?_, fun _ => s_C_outward (by omega) (adr hn hA2 (fun M3 f3 hA3 => ?_))⟩
          · rw [show (60 : Int32) = nI 60 from rfl, ltI, nI_toI (by omega), nI_toI (by omega)] at q; omega
          have ih := ih M3 (f2.trans f3) hA3
          refine b0n (fun c => ?_) (fun c => ⟨fun _ => ?_, fun c => absurd rfl c⟩)
          · simp only [cntB, c, Bool.false_eq_true, if_false, Nat.add_zero] at ih
            unfold P_R_drift_55
            rw [nI_1]; exact ih
          · simp only [cntB, c, if_true] at ih
            unfold P_R_drift_55
            rw [nI_1, nI_1]; exact ih
      obtain ⟨j, hj⟩ := key
      exact ⟨j, hj M1 (FrQ.refl M1) hA0⟩
    | true =>
      simp only [if_true] at hpost
      rw [← df_ow] at hpost
      generalize hg : (fun (n : Nat) (k : Int32) => if dx (owZ n) then I (owZ n) else k) = g at hpost
      have hgs : ∀ n k, g n k = if dx (owZ n) then I (owZ n) else k := fun n k => by rw [← hg]
      generalize hr : frF g 99 61 0 = res at hpost
      have key : ∃ j, frF g 99 (61 - 0) 0 = res → ∀ M2, FrQ M1 M2 → JA M2 w (nn p) → P_R_drift_19 post ex j set (bi true) 0 (nI 0) M2 := by
        refine lpN (R := fun j n => frF g 99 (61 - n) n = res → ∀ M2, FrQ M1 M2 → JA M2 w (nn p) → P_R_drift_19 post ex j set (bi true) 0 (nI n) M2) (N := 61) (fun j hr M2 f2 hA2 => ?_) (fun j n hn ih hr M2 f2 hA2 => ?_)
        · refine ⟨fun _ => ⟨fun c => absurd c (by decide), fun _ => ?_⟩, fun q => absurd (show (60 : Int32) < nI 61 by decide) q⟩
          have := hpost M2 f2 (Or.inr hA2.2.1)
          rw [← hr] at this; exact this
        · refine ⟨fun q => ?_, fun _ => s_C_outward (by omega) (adr hn hA2 (fun M3 f3 hA3 => ?_))⟩
          · rw [show (60 : Int32) = nI 60 from rfl, ltI, nI_toI (by omega), nI_toI (by omega)] at q; omega
          rw [frF_step hn, hgs] at hr
          refine b0n (fun c => ?_) (fun c => ⟨fun c => absurd c (by decide), fun _ => s_C_outward (by omega) ?_⟩)
          · rw [c, if_neg (by decide)] at hr
            unfold P_R_drift_55
            rw [nI_1]; exact ih hr M3 (f2.trans f3) hA3
          · rw [c, if_pos rfl] at hr
            rw [hr]
            exact hpost M3 (f2.trans f3) (Or.inr hA3.2.1)
      obtain ⟨j, hj⟩ := key
      exact ⟨j, hj hr M1 (FrQ.refl M1) hA0⟩
  · refine s_wantPlate hD (fun c1 => absurd c1 hin) (fun c1 => ?_)
    simp only [qp1, c1, Bool.not_false, if_true] at h; exact h.bad1
end DRIFT
