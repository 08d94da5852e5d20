/-! THE CLASS: explained, left, missed, speeds, sets -/
theorem sumN_0 {f : Nat → Nat} : ∀ {n : Nat}, sumN f n = 0 ↔ ∀ k, k < n → f k = 0
  | 0 => by simp [sumN]
  | n + 1 => by
    simp only [sumN]
    constructor
    · intro h k hk
      by_cases e : k = n
      · subst e; omega
      · exact sumN_0.mp (by omega : sumN f n = 0) k (by omega)
    · intro h
      have h1 := sumN_0.mpr (fun k hk => h k (by omega) : ∀ k, k < n → f k = 0)
      have h2 := h n (by omega)
      omega
theorem cntB_0 {p : Nat → Bool} : ∀ {n : Nat}, cntB p n = 0 ↔ anyB p n = false
  | 0 => by simp [cntB, anyB]
  | n + 1 => by
    simp only [cntB, anyB]
    have := cntB_0 (p := p) (n := n)
    cases hp : p n with
    | true => simp
    | false => simp [this]
theorem cntB_congr {p q : Nat → Bool} : ∀ {n : Nat}, (∀ x, x < n → p x = q x) → cntB p n = cntB q n
  | 0, _ => rfl
  | n + 1, h => by simp only [cntB]; rw [cntB_congr (n := n) (fun x hx => h x (by omega)), h n (by omega)]
theorem sumN_congr {f g : Nat → Nat} : ∀ {n : Nat}, (∀ x, x < n → f x = g x) → sumN f n = sumN g n
  | 0, _ => rfl
  | n + 1, h => by simp only [sumN]; rw [sumN_congr (n := n) (fun x hx => h x (by omega)), h n (by omega)]
theorem anyB_congr {p q : Nat → Bool} : ∀ {n : Nat}, (∀ x, x < n → p x = q x) → anyB p n = anyB q n
  | 0, _ => rfl
  | n + 1, h => by simp only [anyB]; rw [anyB_congr (n := n) (fun x hx => h x (by omega)), h n (by omega)]
theorem allB_congr {p q : Nat → Bool} : ∀ {n : Nat}, (∀ x, x < n → p x = q x) → allB p n = allB q n
  | 0, _ => rfl
  | n + 1, h => by simp only [allB]; rw [allB_congr (n := n) (fun x hx => h x (by omega)), h n (by omega)]
/-- no line of the set lies in the reading -/
theorem lnS_0 {w lo hi : Nat → Int32} {r : Nat} {set speed : Int32} : lnS w lo hi r set speed false = 0 ↔ anyB (fun e => inS w set e && anyB (fun l => inB lo hi r (shf w e l speed)) (nn (w (93 + 14 * e)))) (nn (w 7)) = false := by
  unfold lnS
  rw [sumN_0, anyB_f]
  constructor
  · intro h e he
    have := h e he
    unfold lnI lnE at this
    simp only [Bool.false_eq_true, if_false] at this
    cases hs : inS w set e with
    | false => rfl
    | true => rw [hs] at this; simp only [if_true] at this; rw [Bool.true_and]; exact cntB_0.mp this
  · intro h e he
    have := h e he
    unfold lnI lnE
    simp only [Bool.false_eq_true, if_false]
    cases hs : inS w set e with
    | false => rfl
    | true => rw [hs, Bool.true_and] at this; simp only [if_true]; exact cntB_0.mpr this
/-- what stands when a plate is open -/
def JC (M : Mem) (w : Nat → Int32) (p : Nat) (lo hi : Nat → Int32) : Prop := Dk 1 M w ∧ LwOK M w ∧ JdOK M w p lo hi ∧ ∀ r, r < nn (w 9) → ∀ v, inb v (M 70 r) (M 71 r) = htB w lo hi p r v
theorem JC.t {M M' : Mem} {w : Nat → Int32} {p : Nat} {lo hi : Nat → Int32} (h : JC M w p lo hi) (f : FrT M M') : JC M' w p lo hi := by
  refine ⟨f.dk h.1, ?_, f.jd h.2.2.1, ?_⟩
  · have hL := h.2.1
    unfold LwOK at *
    rw [f.1 63 (by omega), f.1 65 (by omega), f.1 66 (by omega), f.1 67 (by omega), f.1 68 (by omega)]; exact hL
  · rw [f.1 70 (by omega), f.1 71 (by omega)]; exact h.2.2.2
theorem s_C_openJ {post : Mem → Prop} {w : Nat → Int32} {p : Nat} {lo hi : Nat → Int32} {M : Mem} (hD : Dk 1 M w) (hI : WInv w) (hL : Lw M w) (hp : p < 3) (hS : SpOK w (-1) 0 lo hi (nn (w 9))) (h : ∀ M', FrQ M M' → JC M' w p lo hi → post M') : P_Judge_open post (nI p) M := by
  refine s_C_open hD hI hL hp (fun M1 lo1 hi1 hS1 f1 hL1 hJ1 => ?_)
  have hJ : JdOK M1 w p lo hi := by
    refine ⟨hJ1.1, hJ1.2.1, hJ1.2.2.1, fun r hr => ?_⟩
    have e1 : lo r = lo1 r := by rw [(hS r hr).1, (hS1 r hr).1]
    have e2 : hi r = hi1 r := by rw [(hS r hr).2, (hS1 r hr).2]
    rw [e1, e2]; exact hJ1.2.2.2 r hr
  exact h M1 f1 ⟨f1.dk hD, hL1, hJ, fun r hr v => hJ.hit (fun r hr => sp_B hI (by omega) hS hr) hr v⟩
section JUDGE
variable {w lo hi : Nat → Int32} {p : Nat} {M : Mem}
theorem cv_plate {el speed : Int32} {r : Nat} (h : ¬ w (191 + 5 * r) = nI p) : cvB w lo hi p el speed r = false := by
  unfold cvB
  rw [anyB_f]
  intro e _
  have : anyB (fun l => htB w lo hi p r (shf w e l speed)) (nn (w (93 + 14 * e))) = false := by
    rw [anyB_f]; intro l _; unfold htB; rw [decide_eq_false h, Bool.false_and]
  rw [this, Bool.and_false]
theorem cv_in {set speed : Int32} {r : Nat} (hI : WInv w) (h : w (191 + 5 * r) = nI p) : cvB w lo hi p (wA w set) speed r = !decide (lnS w lo hi r set speed false = 0) := by
  have e1 : cvB w lo hi p (wA w set) speed r = anyB (fun e => inS w set e && anyB (fun l => inB lo hi r (shf w e l speed)) (nn (w (93 + 14 * e)))) (nn (w 7)) := by
    unfold cvB
    refine anyB_congr (fun e he => ?_)
    rw [tb_wA hI he]
    congr 1
    exact anyB_congr (fun l _ => by unfold htB; rw [decide_eq_true h, Bool.true_and])
  rw [e1]
  have := lnS_0 (w := w) (lo := lo) (hi := hi) (r := r) (set := set) (speed := speed)
  cases hq : anyB (fun e => inS w set e && anyB (fun l => inB lo hi r (shf w e l speed)) (nn (w (93 + 14 * e)))) (nn (w 7)) with
  | true => rw [decide_eq_false (fun h => by rw [this.mp h] at hq; cases hq)]; rfl
  | false => rw [decide_eq_true (this.mpr hq)]; rfl
/-- what is left of the plate's readings, both ways -/
theorem left_eq {set speed : Int32} (hI : WInv w) : ((bitF (fun r => decide (w (191 + 5 * r) = nI p)) (nn (w 9)) &&& (bitF (fun r => decide (w (191 + 5 * r) = nI p) && ghB w r) (nn (w 9)) ^^^ (-1))) &&& (bitF (cvB w lo hi p (wA w set) speed) (nn (w 9)) ^^^ (-1))) = lfA w lo hi (nI p) set speed := by
  have hn := hI.nr.2
  unfold lfA
  apply gb_ext
  intro e he
  rw [gb_and, gb_and, gb_not _ he, gb_not _ he, bitF_gb _ _ (by omega) e he, bitF_gb _ _ (by omega) e he, bitF_gb _ _ (by omega) e he, bitF_gb _ _ (by omega) e he]
  by_cases hen : e < nn (w 9)
  · rw [decide_eq_true hen]
    unfold lfB
    by_cases hq : w (191 + 5 * e) = nI p
    · rw [decide_eq_true hq, cv_in hI hq]; simp
    · rw [decide_eq_false hq]; simp
  · rw [decide_eq_false hen]; simp
theorem miss_eq {set speed : Int32} (hI : WInv w) : msS w lo hi p (wA w set) speed = miS w lo hi p set speed := by
  unfold msS miS miE
  refine sumN_congr (fun e he => cntB_congr (fun l _ => ?_))
  unfold msL miB seA seB
  rw [tb_wA hI he]
  unfold htB
  cases inS w set e <;> cases moB w p e l speed <;> simp
theorem s_C_isExplained {post : Int32 → Mem → Prop} {set speed : Int32} (hJ : JC M w p lo hi) (hI : WInv w) (hp : p < 3) (h : ∀ M', FrT M M' → post (bi (exB w lo hi p set speed)) M') : P_Judge_isExplained post set speed M := by
  have hmb := miS_le (w := w) (lo := lo) (hi := hi) (p := p) (set := set) (speed := speed) hI
  refine s_C_withAir hJ.1 hI (s_C_survey (lo := lo) (hi := hi) hJ.1 hI hp hJ.2.2.1.1 hJ.2.2.2 (fun M2 f2 a2 b2 => ?_))
  have h := h M2 f2.t
  unfold exB at h
  rw [miss_eq hI] at b2
  rw [b2, show (0 : Int32) = nI 0 from rfl, nI_eq (by omega) (by omega)]
  refine ⟨fun c => ?_, fun c v3 e3 => ?_⟩
  · rw [decide_eq_false c, Bool.and_false] at h; exact ⟨Or.inl rfl, h⟩
  · have e69 := hJ.2.2.1
    rw [f2.2 11 (by omega) (by omega), f2.2 12 (by omega) (by omega), a2, e69.2.1, e69.2.2.1, left_eq hI] at e3
    rw [decide_eq_true c, Bool.and_true] at h
    rw [e3]
    refine ⟨fun c2 => ?_, fun c2 => ?_⟩
    · have c2' : ¬ lfA w lo hi (nI p) set speed = 0 := c2
      rw [decide_eq_false c2'] at h; exact ⟨Or.inl rfl, h⟩
    · have c2' : lfA w lo hi (nI p) set speed = 0 := c2
      rw [decide_eq_true c2'] at h; exact ⟨Or.inr rfl, h⟩
theorem s_C_leftBits {post : Int32 → Mem → Prop} {set speed : Int32} (hJ : JC M w p lo hi) (hI : WInv w) (hp : p < 3) (h : ∀ M', FrT M M' → post (lfA w lo hi (nI p) set speed) M') : P_Judge_leftBits post set speed M := by
  refine s_C_withAir hJ.1 hI (s_C_survey (lo := lo) (hi := hi) hJ.1 hI hp hJ.2.2.1.1 hJ.2.2.2 (fun M2 f2 a2 b2 v3 e3 => ?_))
  have e69 := hJ.2.2.1
  rw [f2.2 11 (by omega) (by omega), f2.2 12 (by omega) (by omega), a2, e69.2.1, e69.2.2.1, left_eq hI] at e3
  rw [e3]
  exact h M2 f2.t
end JUDGE
section QUEST
variable {w lo hi : Nat → Int32} {M : Mem} {post : Int32 → Mem → Prop} {ex : String → Mem → Prop}
theorem QX.fin {E : List String} {v : Int32} {M1 M2 : Mem} {p : Nat} (h : QX post ex M w E (qi 0 v)) (f1 : FrQ M M1) (hJ : JC M1 w p lo hi) (f2 : FrT M1 M2) : post v M2 := h.go (f1.trans f2.q) (f2.lw (Or.inr hJ.2.1))
theorem s_qps' {p v : Int32} {x : Int32} {A : Mem → Prop} (hD : Dk 1 M w) (hI : WInv w) (hL : Lw M w) (hS : SpOK w (-1) 0 lo hi (nn (w 9))) (h : QX post ex M w [IOB, IAE] (qps w p v x)) (hA : p = nI (nn p) → nn p < 3 → inb v (-50) 50 = true → ∀ M', JC M' w (nn p) lo hi → (∀ M2, FrT M' M2 → post x M2) → A M') :
    P_R_wantPlate (fun M1 => P_R_wantSpeed (fun M2 => P_Judge_open A p M2) ex v M1) ex p M := by
  refine s_wantPlate hD (fun c1 => s_wantSpeed (fun c2 => ?_) (fun c2 => ?_)) (fun c1 => ?_)
  · simp only [qps, c1, c2, Bool.not_true, Bool.false_eq_true, if_false] at h
    obtain ⟨hp, hp3⟩ := hI.inp c1
    have : P_Judge_open A (nI (nn p)) M := s_C_openJ hD hI hL hp3 hS (fun M1 f1 hJ => hA hp hp3 c2 M1 hJ (fun M2 f2 => h.fin f1 hJ f2))
    rwa [← hp] at this
  · simp only [qps, c1, c2, Bool.not_true, Bool.not_false, Bool.false_eq_true, if_false, if_true] at h; exact h.bad2
  · simp only [qps, c1, Bool.not_false, if_true] at h; exact h.bad1
theorem s_R_explains {p set v : Int32} (hD : Dk 1 M w) (hI : WInv w) (hL : Lw M w) (hS : SpOK w (-1) 0 lo hi (nn (w 9))) (h : QX post ex M w [IOB, IAE] (qps w p v (bi (exB w lo hi (nn p) set v)))) : P_R_explains post ex p set v M :=
  s_qps' hD hI hL hS h (fun hp hp3 hv M1 hJ hpost => s_C_isExplained hJ hI hp3 (fun M2 f2 => ⟨bi_01 _, hpost M2 f2⟩))
theorem s_R_left {p set v : Int32} (hD : Dk 1 M w) (hI : WInv w) (hL : Lw M w) (hS : SpOK w (-1) 0 lo hi (nn (w 9))) (h : QX post ex M w [IOB, IAE] (qps w p v (lfA w lo hi p set v))) : P_R_left post ex p set v M :=
  s_qps' hD hI hL hS h (fun hp hp3 hv M1 hJ hpost => s_C_leftBits hJ hI hp3 (fun M2 f2 => by have := hpost M2 f2; rwa [← hp]))
theorem s_R_missed {p set v : Int32} (hD : Dk 1 M w) (hI : WInv w) (hL : Lw M w) (hS : SpOK w (-1) 0 lo hi (nn (w 9))) (h : QX post ex M w [IOB, IAE] (qps w p v (nI (miS w lo hi (nn p) set v)))) : P_R_missed post ex p set v M := by
  refine s_qps' hD hI hL hS h (fun hp hp3 hv M1 hJ hpost => ?_)
  refine s_C_withAir hJ.1 hI (s_C_survey (lo := lo) (hi := hi) hJ.1 hI hp3 hJ.2.2.1.1 hJ.2.2.2 (fun M2 f2 a2 b2 => ?_))
  rw [b2, miss_eq hI]
  exact hpost M2 f2.t
theorem s_qpw' {p what a b : Int32} {x : Int32} {A : Mem → Prop} (hD : Dk 1 M w) (hI : WInv w) (hL : Lw M w) (hS : SpOK w (-1) 0 lo hi (nn (w 9))) (h : QX post ex M w [IOB, NSE] (qpw w p (inb what a b) x)) (hA : p = nI (nn p) → nn p < 3 → inb what a b = true → ∀ M', JC M' w (nn p) lo hi → (∀ M2, FrT M' M2 → post x M2) → A M') :
    P_R_wantPlate (fun M1 => P_R_within (fun r2 M2 => P_R_wantWhat (fun M3 => P_Judge_open A p M3) ex r2 M2) what a b M1) ex p M := by
  refine s_wantPlate hD (fun c1 => s_R_within (s_want (fun c2 => ?_) (fun c2 => ?_))) (fun c1 => ?_)
  · simp only [qpw, c1, c2, Bool.not_true, Bool.false_eq_true, if_false] at h
    obtain ⟨hp, hp3⟩ := hI.inp c1
    have : P_Judge_open A (nI (nn p)) M := s_C_openJ hD hI hL hp3 hS (fun M1 f1 hJ => hA hp hp3 c2 M1 hJ (fun M2 f2 => h.fin f1 hJ f2))
    rwa [← hp] at this
  · simp only [qpw, c1, c2, Bool.not_true, Bool.not_false, Bool.false_eq_true, if_false, if_true] at h; exact h.bad2
  · simp only [qpw, c1, Bool.not_false, if_true] at h; exact h.bad1
theorem s_qpn' {p what a b : Int32} {x : Int32} {A : Mem → Prop} (hD : Dk 1 M w) (hI : WInv w) (hL : Lw M w) (hS : SpOK w (-1) 0 lo hi (nn (w 9))) (h : QX post ex M w [IOB, IAE] (qpw w p (inb what a b) x)) (hA : p = nI (nn p) → nn p < 3 → inb what a b = true → ∀ M', JC M' w (nn p) lo hi → (∀ M2, FrQ M' M2 → Lw M2 w → post x M2) → A M') :
    P_R_wantPlate (fun M1 => P_R_within (fun r2 M2 => P_R_wantNumber (fun M3 => P_Judge_open A p M3) ex r2 M2) what a b M1) ex p M := by
  refine s_wantPlate hD (fun c1 => s_R_within (s_want (fun c2 => ?_) (fun c2 => ?_))) (fun c1 => ?_)
  · simp only [qpw, c1, c2, Bool.not_true, Bool.false_eq_true, if_false] at h
    obtain ⟨hp, hp3⟩ := hI.inp c1
    have : P_Judge_open A (nI (nn p)) M := s_C_openJ hD hI hL hp3 hS (fun M1 f1 hJ => hA hp hp3 c2 M1 hJ (fun M2 f2 hL2 => h.go (f1.trans f2) hL2))
    rwa [← hp] at this
  · simp only [qpw, c1, c2, Bool.not_true, Bool.not_false, Bool.false_eq_true, if_false, if_true] at h; exact h.bad2
  · simp only [qpw, c1, Bool.not_false, if_true] at h; exact h.bad1
theorem s_qp1' {p : Int32} {x : Int32} {A : Mem → Prop} (hD : Dk 1 M w) (hI : WInv w) (hL : Lw M w) (hS : SpOK w (-1) 0 lo hi (nn (w 9))) (h : QX post ex M w [IOB] (qp1 (inb p 0 (w 8 - 1)) x)) (hA : p = nI (nn p) → nn p < 3 → ∀ M', JC M' w (nn p) lo hi → (∀ M2, FrQ M' M2 → Lw M2 w → post x M2) → A M') :
    P_R_wantPlate (fun M1 => P_Judge_open A p M1) ex p M := by
  refine s_wantPlate hD (fun c1 => ?_) (fun c1 => ?_)
  · simp only [qp1, c1, Bool.not_true, Bool.false_eq_true, if_false] at h
    obtain ⟨hp, hp3⟩ := hI.inp c1
    have : P_Judge_open A (nI (nn p)) M := s_C_openJ hD hI hL hp3 hS (fun M1 f1 hJ => hA hp hp3 M1 hJ (fun M2 f2 hL2 => h.go (f1.trans f2) hL2))
    rwa [← hp] at this
  · simp only [qp1, c1, Bool.not_false, if_true] at h; exact h.bad1
theorem s_R_speeds {p set what : Int32} (hD : Dk 1 M w) (hI : WInv w) (hL : Lw M w) (hS : SpOK w (-1) 0 lo hi (nn (w 9))) (h : QX post ex M w [IOB, NSE] (qpw w p (inb what 0 2) (sdW (sdF (fun v => exB w lo hi (nn p) set (I v)) 101) what))) : P_R_speeds post ex p set what M := by
  refine s_qpw' hD hI hL hS h (fun hp hp3 hw M1 hJ hpost => ?_)
  have hle := sdF_le (fun v => exB w lo hi (nn p) set (I v))
  generalize hF : sdF (fun v => exB w lo hi (nn p) set (I v)) = F at hpost hle
  have key : ∃ j, ∀ M2, FrT M1 M2 → P_R_speeds_37 post ex j set what (nI (F 0).1) (F 0).2.1 (F 0).2.2 (I (((0 : Nat) : Int) - 50)) M2 := by
    refine lpN (R := fun j x => ∀ M2, FrT M1 M2 → P_R_speeds_37 post ex j set what (nI (F x).1) (F x).2.1 (F x).2.2 (I ((x : Int) - 50)) M2) (N := 101) (fun j M2 f2 => ?_) (fun j x hx ih M2 f2 => ?_)
    · refine ⟨fun _ => ?_, fun q => absurd (show (50 : Int32) < I ((101 : Nat) - 50) by decide) q⟩
      have hpost := hpost M2 f2
      unfold sdW at hpost
      refine ⟨fun c => ⟨fun c2 => ?_, fun c2 => ?_⟩, fun c => ?_⟩
      · rw [if_neg c, if_neg c2] at hpost; exact hpost
      · rw [if_neg c, if_pos c2] at hpost; exact hpost
      · rw [if_pos c] at hpost; exact hpost
    · refine ⟨fun q => ?_, fun _ => ?_⟩
      · rw [show (50 : Int32) = I 50 from rfl, I_lt (by omega) (by omega)] at q; omega
      have hx1 := hle x
      have e1 : I ((x : Int) - 50) + 1 = I (((x + 1 : Nat) : Int) - 50) := by rw [show (1 : Int32) = I 1 from rfl, I_add]; congr 1; omega
      refine s_C_isExplained (hJ.t f2) hI hp3 (fun M3 f3 => ?_)
      have ih := ih M3 (f2.trans f3)
      have eF : F (x + 1) = if exB w lo hi (nn p) set (I ((x : Int) - 50)) then ((F x).1 + 1, (if (F x).1 = 0 then I ((x : Int) - 50) else (F x).2.1), I ((x : Int) - 50)) else F x := by rw [← hF]; rfl
      refine b0n (fun c => ?_) (fun c => ⟨fun c2 => ?_, fun c2 => ?_⟩)
      · rw [c] at eF
        rw [eF, ← e1] at ih; exact ih
      · have c3 : ¬ (F x).1 = 0 := fun e => c2 (by rw [e]; rfl)
        rw [c, if_pos rfl, if_neg c3] at eF
        rw [eF, ← e1, ← nI_1] at ih; exact ih
      · have c3 : (F x).1 = 0 := by rw [← nI_0, nI_eq (by omega) (by omega)] at c2; exact c2
        rw [c, if_pos rfl, if_pos c3] at eF
        rw [eF, ← e1, ← nI_1] at ih; exact ih
  obtain ⟨j, hj⟩ := key
  have := hj M1 (FrT.refl M1)
  rw [← hF] at this
  exact ⟨j, this⟩
end QUEST
