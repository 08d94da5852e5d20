/-! THE CLASS: lines inside a reading; amount, wide -/
section INSIDE
variable {w lo hi : Nat → Int32} {p : Nat} {M : Mem}
def liE (w lo hi : Nat → Int32) (p : Nat) (el : Int32) (r e : Nat) : Nat := if tb el e then cntB (fun l => htB w lo hi p r (shf w e l 0)) (nn (w (93 + 14 * e))) else 0
def liN (w lo hi : Nat → Int32) (p : Nat) (el : Int32) (r : Nat) : Nat := sumN (liE w lo hi p el r) (nn (w 7))
theorem liE_le (hI : WInv w) {el : Int32} {r e : Nat} (he : e < nn (w 7)) : liE w lo hi p el r e ≤ 6 := by
  have h6 := hI.ne.2
  have := cntB_le (fun l => htB w lo hi p r (shf w e l 0)) (nn (w (93 + 14 * e)))
  have h4 := (hI.nl (e := e) (by omega)).2
  unfold liE
  split <;> omega
theorem liN_le (hI : WInv w) {el : Int32} {r : Nat} : liN w lo hi p el r ≤ 36 := by
  have h6 := hI.ne.2
  have : liN w lo hi p el r ≤ nn (w 7) * 6 := sumN_bd _ (fun e he => liE_le hI he)
  omega
/-- on the plate it is the count of lines -/
theorem li_on (hI : WInv w) {set : Int32} {r : Nat} (h : w (191 + 5 * r) = nI p) : liN w lo hi p (wA w set) r = lnS w lo hi r set 0 false := by
  unfold liN lnS
  refine sumN_congr (fun e he => ?_)
  unfold liE lnI lnE
  rw [tb_wA hI he]
  simp only [Bool.false_eq_true, if_false]
  congr 1
  exact cntB_congr (fun l _ => by unfold htB; rw [decide_eq_true h, Bool.true_and])
theorem s_C_linesInside {post : Int32 → Mem → Prop} {el : Int32} {r : Nat} (hD : Dk 1 M w) (hI : WInv w) (hr : r < nn (w 9)) (hit : ∀ v, inb v (M 70 r) (M 71 r) = htB w lo hi p r v) (h : post (nI (liN w lo hi p el r)) M) : P_Judge_linesInside post el (nI r) M := by
  obtain ⟨hn, hn6⟩ := hI.ne
  have hr24 := hI.nr.2
  refine lpN (R := fun j e => P_Judge_linesInside_5 post j el (nI r) (nI (sumN (liE w lo hi p el r) e)) (nI e) M) (N := nn (w 7)) (fun j => brSt (by rw [hD.ne]; exact hn) h) (fun j e he ih => brGo (by rw [hD.ne]; exact hn) (by omega) he ?_)
  have he6 : e < 6 := by omega
  obtain ⟨hl, hl6⟩ := hI.nl he6
  by_cases hte : tb el e = true
  · have inner : ∃ q, P_Judge_linesInside_23 post (P_Judge_linesInside_5 post j) q el (nI r) (nI (sumN (liE w lo hi p el r) e + cntB (fun l => htB w lo hi p r (shf w e l 0)) 0)) (nI e) (nI 0) M := by
      refine lpN (R := fun q l => P_Judge_linesInside_23 post (P_Judge_linesInside_5 post j) q el (nI r) (nI (sumN (liE w lo hi p el r) e + cntB (fun l => htB w lo hi p r (shf w e l 0)) l)) (nI e) (nI l) M) (N := nn (w (93 + 14 * e))) (fun q => ?_) (fun q l hlx ih2 => ?_)
      · refine s_C_has ?_
        rw [hte]
        refine ⟨fun c => absurd c (by decide), fun _ => ⟨vin_nI he6 (by omega), ?_⟩⟩
        rw [nI_clamp (by omega), hD.nl he6]
        refine brSt hl ?_
        unfold P_Judge_linesInside_96
        rw [nI_1]
        simp only [sumN] at ih
        have e1 : liE w lo hi p el r e = cntB (fun l => htB w lo hi p r (shf w e l 0)) (nn (w (93 + 14 * e))) := by unfold liE; rw [hte, if_pos rfl]
        rw [e1] at ih; exact ih
      · have hl6' : l < 6 := by omega
        refine s_C_has ?_
        rw [hte]
        refine ⟨fun c => absurd c (by decide), fun _ => ⟨vin_nI he6 (by omega), ?_⟩⟩
        rw [show (nI e).toNatClampNeg = e from nI_clamp (by omega), hD.nl he6]
        refine brGo hl (by omega) hlx ?_
        rw [at6, nI_clamp (by omega), hD.wv he6 hl6', nI_clamp (by omega)]
        refine ⟨vin_nI (by omega) (by omega), vin_nI (by omega) (by omega), vin_nI (by omega) (by omega), s_R_within ?_⟩
        rw [hit, ← shf_0 hI he6 hl6']
        refine b0n (fun c => ?_) (fun c => ?_)
        · simp only [cntB, c, Bool.false_eq_true, if_false, Nat.add_zero] at ih2
          unfold P_Judge_linesInside_90
          rw [nI_1]; exact ih2
        · simp only [cntB, c, if_true] at ih2
          unfold P_Judge_linesInside_90
          rw [nI_1, nI_1]; exact ih2
    obtain ⟨q, hq⟩ := inner
    exact ⟨q, hq⟩
  · have hte : tb el e = false := by simpa using hte
    refine ⟨1, s_C_has ?_⟩
    rw [hte]
    refine ⟨fun _ => ?_, fun c => absurd rfl c⟩
    simp only [sumN] at ih
    have e1 : liE w lo hi p el r e = 0 := by unfold liE; rw [hte]; rfl
    rw [e1] at ih
    unfold P_Judge_linesInside_96
    rw [nI_1]; exact ih
theorem s_C_countInside {post : Mem → Prop} {el : Int32} (hJ : JC M w p lo hi) (hI : WInv w) (h : ∀ M', FrT M M' → (∀ r, r < nn (w 9) → M' 72 r = nI (liN w lo hi p el r)) → post M') : P_Judge_countInside post el M := by
  obtain ⟨hn, hn24⟩ := hI.nr
  have key : ∃ j, ∀ M1, FrT M M1 → (∀ r, r < 0 → M1 72 r = nI (liN w lo hi p el r)) → P_Judge_countInside_2 post j el (nI 0) M1 := by
    refine lpN (R := fun j x => ∀ M1, FrT M M1 → (∀ r, r < x → M1 72 r = nI (liN w lo hi p el r)) → P_Judge_countInside_2 post j el (nI x) M1) (N := nn (w 9)) (fun j M1 f1 h1 => ?_) (fun j x hx ih M1 f1 h1 => ?_)
    · exact brSt (by rw [(hJ.t f1).1.nr]; exact hn) (h M1 f1 h1)
    · refine brGo (by rw [(hJ.t f1).1.nr]; exact hn) (by omega) hx (s_C_linesInside (hJ.t f1).1 hI hx ((hJ.t f1).2.2.2 x hx) ⟨vin_nI (by omega) (by omega), fun M2 m2 => ?_⟩)
      rw [nI_clamp (by omega)] at m2
      rw [nI_1]
      refine ih M2 (by rw [m2]; exact f1.put (Or.inr ⟨by omega, by omega⟩) _) (fun r hr => ?_)
      rw [m2]
      by_cases q : r = x
      · subst q; rw [ms_at]
      · rw [ms_ne _ _ _ q]; exact h1 r (by omega)
  obtain ⟨j, hj⟩ := key
  exact ⟨j, hj M (FrT.refl M) (fun r hr => by omega)⟩
theorem s_C_shown {post : Int32 → Mem → Prop} {x0 x1 : Int32} (h : post (shw x0 x1) M) : P_Judge_shown post x0 x1 M := by
  unfold shw at h
  refine s_min ⟨fun c => ?_, fun c => ⟨fun c2 => ?_, fun c2 => s_max ?_⟩⟩
  · rw [if_pos c] at h; split at h <;> exact h
  · rw [if_pos c2] at h; exact h
  · rw [if_neg c2, if_neg c] at h; exact h
theorem shw_rg {a n : Nat} (ha : a ≤ 9) (hn : n ≤ 9) : rg (shw (nI a) (nI n)) 0 9 := by
  have : ∀ a n : Fin 10, 0 ≤ (shw (nI a.1) (nI n.1)).toInt ∧ (shw (nI a.1) (nI n.1)).toInt ≤ 9 := by decide +kernel
  exact this ⟨a, by omega⟩ ⟨n, by omega⟩
theorem abs_in {x y : Int32} (hx : rg x 0 9) (hy : rg y 0 9) : inb (x - y) (-1) 1 = decide (jabs (x - y) ≤ 1) := by
  have : ∀ a b : Fin 10, inb (nI a.1 - nI b.1) (-1) 1 = decide (jabs (nI a.1 - nI b.1) ≤ 1) := by decide +kernel
  obtain ⟨e1, h1⟩ := nn_of hx (by omega)
  obtain ⟨e2, h2⟩ := nn_of hy (by omega)
  have hx2 := hx.2
  have hy2 := hy.2
  rw [e1, e2]
  exact this ⟨nn x, by omega⟩ ⟨nn y, by omega⟩
theorem s_C_isSeenAs {post : Int32 → Mem → Prop} {set v s : Int32} (hJ : JC M w p lo hi) (hI : WInv w) (hs : rg s 0 9) (h72 : ∀ r, r < nn (w 9) → M 72 r = nI (liN w lo hi p (wA w set) r))
    (h : post (bi (allB (fun r => !(decide (w (191 + 5 * r) = nI p) && inB lo hi r v && decide (lnS w lo hi r set 0 false = 1)) || decide (jabs (w (194 + 5 * r) - s) ≤ 1)) (nn (w 9)))) M) : P_Judge_isSeenAs post v s M := by
  obtain ⟨hn, hn24⟩ := hI.nr
  have hD := hJ.1
  generalize hT : (fun r => !(decide (w (191 + 5 * r) = nI p) && inB lo hi r v && decide (lnS w lo hi r set 0 false = 1)) || decide (jabs (w (194 + 5 * r) - s) ≤ 1)) = T at h
  have key : ∃ j, allB T 0 = true → P_Judge_isSeenAs_2 post j v s (nI 0) M := by
    refine lpN (R := fun j r => allB T r = true → P_Judge_isSeenAs_2 post j v s (nI r) M) (N := nn (w 9)) (fun j ha => ?_) (fun j r hr ih ha => ?_)
    · rw [ha] at h; exact brSt (by rw [hD.nr]; exact hn) h
    · have hle := liN_le (lo := lo) (hi := hi) (p := p) (el := wA w set) (r := r) hI
      have e1 : T r = (!(decide (liN w lo hi p (wA w set) r = 1) && htB w lo hi p r v) || inb (w (194 + 5 * r) - s) (-1) 1) := by
        have hTr : T r = (!(decide (w (191 + 5 * r) = nI p) && inB lo hi r v && decide (lnS w lo hi r set 0 false = 1)) || decide (jabs (w (194 + 5 * r) - s) ≤ 1)) := by rw [← hT]
        rw [hTr, abs_in ((hI.rd (by omega : r < 24)).2.2.2.1) hs]
        unfold htB
        by_cases hq : w (191 + 5 * r) = nI p
        · rw [li_on hI hq, decide_eq_true hq]; simp only [Bool.true_and]; rw [Bool.and_comm]
        · rw [decide_eq_false hq]; simp
      have go : T r = true → P_Judge_isSeenAs_69 post (P_Judge_isSeenAs_2 post j) v s (nI r) M := fun ht => by
        unfold P_Judge_isSeenAs_69
        rw [nI_1]; exact ih (by simp only [allB, ha, ht, Bool.and_self])
      refine brGo (by rw [hD.nr]; exact hn) (by omega) hr ⟨vin_nI (by omega) (by omega), ?_⟩
      rw [nI_clamp (by omega), h72 r hr]
      refine ⟨fun c => go ?_, fun c => ⟨vin_nI (by omega) (by omega), vin_nI (by omega) (by omega), s_R_within ?_⟩⟩
      · have : ¬ liN w lo hi p (wA w set) r = 1 := fun q => c (by rw [q]; rfl)
        rw [e1, decide_eq_false this]; rfl
      · have c1 : liN w lo hi p (wA w set) r = 1 := by rw [lit_nI 1, nI_eq (by omega) (by omega)] at c; exact c
        rw [hJ.2.2.2 r hr]
        refine b0n (fun c2 => go (by rw [e1, c2]; simp)) (fun c2 => ⟨vin_nI (by omega) (by omega), s_R_within ?_⟩)
        rw [hD.rs (by omega)]
        refine bn0 (fun c3 => ?_) (fun c3 => go (by rw [e1, c3]; simp))
        have : allB T (nn (w 9)) = false := allB_le (x := r + 1) (by omega) (by simp only [allB, ha, Bool.true_and]; rw [e1, c1, c2, c3]; rfl)
        rw [this] at h; exact h
  obtain ⟨j, hj⟩ := key
  exact ⟨j, hj rfl⟩
theorem s_C_amountFits {post : Int32 → Mem → Prop} {set : Int32} {e n : Nat} (hJ : JC M w p lo hi) (hI : WInv w) (hp : p < 3) (he : e < 6) (hn9 : n ≤ 9) (h72 : ∀ r, r < nn (w 9) → M 72 r = nI (liN w lo hi p (wA w set) r))
    (h : post (bi (amB w lo hi p set e (nI n))) M) : P_Judge_amountFits post (nI e) (nI n) M := by
  have hD := hJ.1
  obtain ⟨hl, hl6⟩ := hI.nl he
  unfold amB at h
  have key : ∃ j, allB (alB w lo hi p set e (nI n)) 0 = true → P_Judge_amountFits_2 post j (nI e) (nI n) (nI 0) M := by
    refine lpN (R := fun j l => allB (alB w lo hi p set e (nI n)) l = true → P_Judge_amountFits_2 post j (nI e) (nI n) (nI l) M) (N := nn (w (93 + 14 * e))) (fun j ha => ?_) (fun j l hlx ih ha => ?_)
    · refine ⟨vin_nI he (by omega), ?_⟩
      rw [nI_clamp (by omega), hD.nl he]
      rw [ha] at h; exact brSt hl h
    · have hl6' : l < 6 := by omega
      have go : alB w lo hi p set e (nI n) l = true → P_Judge_amountFits_101 post (P_Judge_amountFits_2 post j) (nI e) (nI n) (nI l) M := fun ht => by
        unfold P_Judge_amountFits_101
        rw [nI_1]; exact ih (by simp only [allB, ha, ht, Bool.and_self])
      refine ⟨vin_nI he (by omega), ?_⟩
      rw [nI_clamp (by omega), hD.nl he]
      refine brGo hl (by omega) hlx (fun x4 e4 => ?_)
      rw [at6] at e4
      subst e4
      rw [nI_clamp (by omega), hD.wv he hl6', hD.st he hl6', hJ.2.2.1.1]
      refine ⟨vin_nI (by omega) (by omega), vin_nI (by omega) (by omega), s_C_mustShow hD hp ?_⟩
      have emo : (inb (w (94 + 14 * e + 2 * l)) (w (178 + 5 * p)) (w (179 + 5 * p)) && decide (¬ (w (95 + 14 * e + 2 * l) * w (176 + 5 * p)) * w (177 + 5 * p) < 30)) = moB w p e l 0 := by
        unfold moB msB; rw [shf_0 hI he hl6']
      rw [emo]
      refine b0n (fun c => go (by unfold alB; rw [c]; rfl)) (fun c => ⟨vin_nI (by omega) (by omega), s_C_shown ?_⟩)
      have hst := ((hI.el he).2.2 l hl6').2
      obtain ⟨es, hs1⟩ := nn_of hst (by omega)
      have hst2 := hst.2
      have hsh : rg (shw (w (95 + 14 * e + 2 * l)) (nI n)) 0 9 := by rw [es]; exact shw_rg (by omega) hn9
      refine s_C_isSeenAs (set := set) hJ hI hsh h72 ?_
      rw [hD.wv he hl6']
      have eal : alB w lo hi p set e (nI n) l = allB (arB w lo hi (nI p) set e (nI n) l) (nn (w 9)) := by unfold alB; rw [c]; rfl
      refine bn0 (fun c2 => ?_) (fun c2 => go (by rw [eal]; exact c2))
      have c3 : alB w lo hi p set e (nI n) l = false := by rw [eal]; exact c2
      have : allB (alB w lo hi p set e (nI n)) (nn (w (93 + 14 * e))) = false := allB_le (x := l + 1) (by omega) (by simp only [allB, ha, c3, Bool.and_false])
      rw [this] at h; exact h
  obtain ⟨j, hj⟩ := key
  exact ⟨j, hj rfl⟩
theorem bitF_s0 {f : Nat → Bool} {k : Nat} (h : f k = false) : bitF f (k + 1) = bitF f k := by simp only [bitF, h, Bool.false_eq_true, if_false]
theorem bitF_s1 {f : Nat → Bool} {k : Nat} (h : f k = true) : bitF f (k + 1) = bitF f k ||| ((1 : Int32) <<< (nI k &&& 31)) := by simp only [bitF, h, if_true]
/-- the amounts that fit, as bits -/
theorem s_C_amountBits {post : Int32 → Mem → Prop} {set : Int32} {e : Nat} (hJ : JC M w p lo hi) (hI : WInv w) (hp : p < 3) (he : e < 6)
    (h : ∀ M', FrT M M' → post (bitF (fun n => decide (0 < n) && amB w lo hi p (set ||| ((1 : Int32) <<< (nI e &&& 31))) e (nI n)) 10) M') : P_Judge_amountBits post set (nI e) M := by
  refine s_C_withAir hJ.1 hI (s_C_countInside hJ hI (fun M2 f2 h72 => ?_))
  have h := h M2 f2
  generalize hF : (fun n => decide (0 < n) && amB w lo hi p (set ||| ((1 : Int32) <<< (nI e &&& 31))) e (nI n)) = F at h
  have key : ∃ j, P_Judge_amountBits_24 post j (nI e) (bitF F (0 + 1)) (nI (0 + 1)) M2 := by
    refine lpN (R := fun j x => P_Judge_amountBits_24 post j (nI e) (bitF F (x + 1)) (nI (x + 1)) M2) (N := 9) (fun j => ⟨fun _ => h, fun c => absurd (by decide) c⟩) (fun j x hx ih => ⟨fun c => ?_, fun _ => ?_⟩)
    · rw [lit_nI 9, nI_I, nI_I, I_lt (by omega) (by omega)] at c; omega
    · refine s_C_amountFits (hJ.t f2) hI hp he (by omega) h72 ?_
      have hFx : F (x + 1) = amB w lo hi p (set ||| ((1 : Int32) <<< (nI e &&& 31))) e (nI (x + 1)) := by rw [← hF]; simp
      rw [← hFx]
      refine b0n (fun c => ?_) (fun c x3 e3 => ?_)
      · rw [bitF_s0 c] at ih
        unfold P_Judge_amountBits_48
        rw [nI_1]; exact ih
      · rw [bitF_s1 c, ← e3] at ih
        unfold P_Judge_amountBits_48
        rw [nI_1]; exact ih
  obtain ⟨j, hj⟩ := key
  refine ⟨j, ?_⟩
  have e0 : bitF F (0 + 1) = 0 := by rw [← hF]; rfl
  rw [e0] at hj
  exact hj
/-- the least and the most of the amounts -/
theorem ao_most {f : Nat → Bool} : ∀ {n x : Nat}, x ≤ n → (∀ y, x < y → y ≤ n → f y = false) → aoF f true n = aoF f true x
  | 0, x, hx, _ => by have : x = 0 := by omega
                      subst this; rfl
  | n + 1, x, hx, h => by
    by_cases q : x = n + 1
    · rw [q]
    · have e1 := ao_most (f := f) (n := n) (x := x) (by omega) (fun y h1 h2 => h y h1 (by omega))
      simp only [aoF, h (n + 1) (by omega) (by omega), Bool.false_and, Bool.false_eq_true, if_false]; exact e1
theorem ao_least {f : Nat → Bool} {x : Nat} (h0 : ∀ y, 0 < y → y ≤ x → f y = false) : aoF f false x = -1 := by
  induction x with
  | zero => rfl
  | succ x ih => simp only [aoF, h0 (x + 1) (by omega) (by omega), Bool.false_and, Bool.false_eq_true, if_false]; exact ih (fun y h1 h2 => h0 y h1 (by omega))
theorem ao_keep {f : Nat → Bool} {x n : Nat} (hx : x ≤ n) (h : (0 : Int32) ≤ aoF f false x) : aoF f false n = aoF f false x := by
  induction n with
  | zero => have : x = 0 := by omega
            subst this; rfl
  | succ n ih =>
    by_cases q : x = n + 1
    · rw [q]
    · have := ih (by omega)
      simp only [aoF, this, decide_not, decide_eq_true h, Bool.not_true, Bool.or_self, Bool.and_false, Bool.false_eq_true, if_false]
theorem s_R_amount {post : Int32 → Mem → Prop} {ex : String → Mem → Prop} {p set e : Int32} {most : Bool} (hD : Dk 1 M w) (hI : WInv w) (hL : Lw M w) (hS : SpOK w (-1) 0 lo hi (nn (w 9)))
    (h : QX post ex M w [IOB] (qp1 (inb p 0 (w 8 - 1) && inb e 0 (w 7 - 1)) (aoF (fun n => amB w lo hi (nn p) (set ||| ((1 : Int32) <<< (e &&& 31))) (nn e) (nI n)) most 9))) : P_R_amount post ex p set e (bi most) M := by
  refine s_wantPlate hD (fun c1 => s_wantElement hD (fun c2 => ?_) (fun c2 => ?_)) (fun c1 => ?_)
  · simp only [qp1, c1, c2, Bool.and_self, Bool.not_true, Bool.false_eq_true, if_false] at h
    obtain ⟨hp, hp3⟩ := hI.inp c1
    obtain ⟨he, _, he6⟩ := hI.ine c2
    rw [hp, he]
    refine s_C_openJ hD hI hL hp3 hS (fun M1 f1 hJ => s_C_amountBits hJ hI hp3 he6 (fun M2 f2 => ?_))
    have hpost := h.fin f1 hJ f2
    rw [← he]
    generalize hf : (fun n => amB w lo hi (nn p) (set ||| ((1 : Int32) <<< (e &&& 31))) (nn e) (nI n)) = f at hpost
    have hB : ∀ x, x < 10 → tb (bitF (fun n => decide (0 < n) && amB w lo hi (nn p) (set ||| ((1 : Int32) <<< (e &&& 31))) (nn e) (nI n)) 10) x = (decide (0 < x) && f x) := by
      intro x hx
      rw [tb_gb (by omega), bitF_gb _ _ (by omega) x (by omega), decide_eq_true hx, ← hf]; rfl
    generalize bitF (fun n => decide (0 < n) && amB w lo hi (nn p) (set ||| ((1 : Int32) <<< (e &&& 31))) (nn e) (nI n)) 10 = B at hB
    cases most with
    | false =>
      have key : ∃ j, (∀ y, 0 < y → y ≤ 0 → f y = false) → P_R_amount_32 post ex j (bi false) B (nI (0 + 1)) M2 := by
        refine lpN (R := fun j x => (∀ y, 0 < y → y ≤ x → f y = false) → P_R_amount_32 post ex j (bi false) B (nI (x + 1)) M2) (N := 9) (fun j h0 => ⟨fun _ => ?_, fun c => absurd (by decide) c⟩) (fun j x hx ih h0 => ⟨fun c => ?_, fun _ => ⟨fun _ => s_C_has ?_, fun c => absurd rfl c⟩⟩)
        · rw [ao_least h0] at hpost; exact hpost
        · rw [lit_nI 9, nI_I, nI_I, I_lt (by omega) (by omega)] at c; omega
        · rw [hB (x + 1) (by omega), decide_eq_true (by omega : 0 < x + 1), Bool.true_and]
          refine b0n (fun c => ?_) (fun c => ?_)
          · rw [nI_1]
            refine ih (fun y h1 h2 => ?_)
            by_cases q : y = x + 1
            · rw [q]; exact c
            · exact h0 y h1 (by omega)
          · have e1 : aoF f false (x + 1) = nI (x + 1) := by simp only [aoF, c, ao_least h0]; rfl
            have e2 := ao_keep (f := f) (x := x + 1) (n := 9) (by omega) (by rw [e1, lit_nI 0, nI_I, nI_I, I_le (by omega) (by omega)]; omega)
            rw [e2, e1] at hpost; exact hpost
      obtain ⟨j, hj⟩ := key
      exact ⟨j, hj (fun y h1 h2 => by omega)⟩
    | true =>
      have key : ∃ j, (∀ y, 9 - 0 < y → y ≤ 9 → f y = false) → P_R_amount_32 post ex j (bi true) B (nI (0 + 1)) M2 := by
        refine lpN (R := fun j x => (∀ y, 9 - x < y → y ≤ 9 → f y = false) → P_R_amount_32 post ex j (bi true) B (nI (x + 1)) M2) (N := 9) (fun j h0 => ⟨fun _ => ?_, fun c => absurd (by decide) c⟩) (fun j x hx ih h0 => ⟨fun c => ?_, fun _ => ⟨fun c => absurd c (by decide), fun _ => ?_⟩⟩)
        · rw [ao_most (x := 0) (by omega) (fun y h1 h2 => h0 y (by omega) h2)] at hpost; exact hpost
        · rw [lit_nI 9, nI_I, nI_I, I_lt (by omega) (by omega)] at c; omega
        · have e10 : (10 : Int32) - nI (x + 1) = nI (9 - x) := by
            rw [lit_nI 10, nI_I, nI_I, nI_I, I_sub]; congr 1; omega
          unfold P_R_amount_54
          rw [e10]
          refine s_C_has ?_
          rw [hB (9 - x) (by omega), decide_eq_true (by omega : 0 < 9 - x), Bool.true_and]
          refine b0n (fun c => ?_) (fun c => ?_)
          · rw [nI_1]
            refine ih (fun y h1 h2 => ?_)
            by_cases q : y = 9 - x
            · rw [q]; exact c
            · exact h0 y (by omega) h2
          · obtain ⟨k, hk⟩ : ∃ k, 9 - x = k + 1 := ⟨8 - x, by omega⟩
            have e2 := ao_most (f := f) (x := 9 - x) (n := 9) (by omega) (fun y h1 h2 => h0 y (by omega) h2)
            rw [hk] at e2 c
            have e1 : aoF f true (k + 1) = nI (k + 1) := by simp only [aoF, c]; rfl
            rw [e2, e1, ← hk] at hpost; exact hpost
      obtain ⟨j, hj⟩ := key
      exact ⟨j, hj (fun y h1 h2 => by omega)⟩
  · simp only [qp1, c1, c2, Bool.and_false, Bool.not_false, if_true] at h; exact h.bad1
  · simp only [qp1, c1, Bool.false_and, Bool.not_false, if_true] at h; exact h.bad1
theorem s_C_wideBits {post : Int32 → Mem → Prop} {set : Int32} (hJ : JC M w p lo hi) (hI : WInv w) (hp : p < 3) (h : ∀ M', FrT M M' → post (bitF (wdB w lo hi p set false) (nn (w 9))) M') : P_Judge_wideBits post set M := by
  obtain ⟨hn, hn24⟩ := hI.nr
  refine s_C_withAir hJ.1 hI (s_C_countInside hJ hI (fun M2 f2 h72 => ?_))
  have h := h M2 f2
  have hJ2 := hJ.t f2
  have hD := hJ2.1
  refine lpN (R := fun j r => P_Judge_wideBits_19 post j (bitF (wdB w lo hi p set false) r) (nI r) M2) (N := nn (w 9)) (fun j => brSt (by rw [hD.nr]; exact hn) h) (fun j r hr ih => brGo (by rw [hD.nr]; exact hn) (by omega) hr (s_C_has ?_))
  have go : wdB w lo hi p set false r = false → P_Judge_wideBits_90 post (P_Judge_wideBits_19 post j) (bitF (wdB w lo hi p set false) r) (nI r) M2 := fun c => by
    rw [bitF_s0 c] at ih
    unfold P_Judge_wideBits_90
    rw [nI_1]; exact ih
  rw [hJ2.2.2.1.2.1, tb_gb (by omega), bitF_gb _ _ (by omega) r (by omega), decide_eq_true hr, Bool.true_and]
  refine b0n (fun c => go (by unfold wdB; rw [c]; rfl)) (fun c => ?_)
  have hq : w (191 + 5 * r) = nI p := of_decide_eq_true c
  have hle := lnS_le (lo := lo) (hi := hi) (r := r) (set := set) (speed := 0) (el := false) hI
  have e1 : wdB w lo hi p set false r = (decide (w (177 + 5 * p) < w (195 + 5 * r)) && decide (lnS w lo hi r set 0 false < 2)) := by unfold wdB; rw [c]; rfl
  rw [hJ2.2.2.1.1, nI_clamp (by omega), nI_clamp (by omega), hD.rw (by omega), hD.pslit hp, h72 r hr, li_on hI hq]
  refine ⟨vin_nI (by omega) (by omega), vin_nI hp (by omega), fun c2 => go ?_, fun c2 => ⟨vin_nI (by omega) (by omega), fun c3 => go ?_, fun c3 x2 e2 => ?_⟩⟩
  · have : ¬ w (177 + 5 * p) < w (195 + 5 * r) := by rw [ltI]; rw [leI] at c2; omega
    rw [e1, decide_eq_false this]; rfl
  · have : ¬ lnS w lo hi r set 0 false < 2 := by
      rw [lit_nI 2, nI_I, nI_I, I_le (by omega) (by omega)] at c3; omega
    rw [e1, decide_eq_false this, Bool.and_false]
  · have h2 : w (177 + 5 * p) < w (195 + 5 * r) := by rw [ltI]; rw [leI] at c2; omega
    have h3 : lnS w lo hi r set 0 false < 2 := by
      rw [lit_nI 2, nI_I, nI_I, I_le (by omega) (by omega)] at c3; omega
    rw [bitF_s1 (by rw [e1, decide_eq_true h2, decide_eq_true h3]; rfl), ← e2] at ih
    unfold P_Judge_wideBits_90
    rw [nI_1]; exact ih
/-- two or more, counted or found -/
def twoB (f : Nat → Bool) : Nat → Bool
  | 0 => false
  | n + 1 => twoB f n || (anyB f n && f n)
theorem two_any {f : Nat → Bool} : ∀ {n : Nat}, (twoB f n = true ↔ 1 < cntB f n) ∧ (anyB f n = true ↔ 0 < cntB f n)
  | 0 => by simp [twoB, anyB, cntB]
  | n + 1 => by
    obtain ⟨h1, h2⟩ := two_any (f := f) (n := n)
    by_cases hf : f n = true
    · have e1 : cntB f (n + 1) = cntB f n + 1 := by simp only [cntB, hf, if_true]
      rw [e1]
      simp only [twoB, anyB, hf, Bool.and_true, Bool.or_true, Bool.or_eq_true]
      rw [h1, h2]
      refine ⟨by omega, ?_⟩
      simp
    · have hf : f n = false := by simpa using hf
      have e1 : cntB f (n + 1) = cntB f n := by simp only [cntB, hf, Bool.false_eq_true, if_false, Nat.add_zero]
      rw [e1]
      simp only [twoB, anyB, hf, Bool.and_false, Bool.or_false]
      exact ⟨h1, h2⟩
theorem two_cnt {f : Nat → Bool} {n : Nat} : twoB f n = decide (1 < cntB f n) := by
  rw [Bool.eq_iff_iff, decide_eq_true_iff]; exact two_any.1
theorem sum_cnt {f : Nat → Bool} {g : Nat → Nat} : ∀ {n : Nat}, (∀ e, e < n → g e = if f e then 1 else 0) → sumN g n = cntB f n
  | 0, _ => rfl
  | n + 1, h => by simp only [sumN, cntB]; rw [sum_cnt (n := n) (fun e he => h e (by omega)), h n (by omega)]
theorem s_C_sharedBits {post : Int32 → Mem → Prop} {set : Int32} (hJ : JC M w p lo hi) (hI : WInv w) (hp : p < 3) (h : ∀ M', FrT M M' → post (bitF (wdB w lo hi p set true) (nn (w 9))) M') : P_Judge_sharedBits post set M := by
  obtain ⟨hn, hn6⟩ := hI.ne
  have hr24 := hI.nr.2
  refine s_C_withAir hJ.1 hI ?_
  let f : Nat → Nat → Bool := fun r e => inS w set e && cvB w lo hi p (oneE e) 0 r
  have key : ∃ j, ∀ M1, FrT M M1 → P_Judge_sharedBits_20 post j (wA w set) (bitF (fun r => anyB (f r) 0) (nn (w 9))) (bitF (fun r => twoB (f r) 0) (nn (w 9))) (nI 0) M1 := by
    refine lpN (R := fun j e => ∀ M1, FrT M M1 → P_Judge_sharedBits_20 post j (wA w set) (bitF (fun r => anyB (f r) e) (nn (w 9))) (bitF (fun r => twoB (f r) e) (nn (w 9))) (nI e) M1) (N := nn (w 7)) (fun j M1 f1 => ?_) (fun j e he ih M1 f1 => ?_)
    · refine brSt (by rw [(hJ.t f1).1.ne]; exact hn) ?_
      have e1 : bitF (fun r => twoB (f r) (nn (w 7))) (nn (w 9)) = bitF (wdB w lo hi p set true) (nn (w 9)) := by
        refine bitF_congr (fun r hr => ?_)
        rw [two_cnt]
        unfold wdB
        by_cases hq : w (191 + 5 * r) = nI p
        · rw [decide_eq_true hq, Bool.true_and, if_pos rfl]
          unfold lnS
          rw [sum_cnt (f := f r) (g := lnI w lo hi r set 0 true) (fun e he => ?_)]
          have hcv : cvB w lo hi p (oneE e) 0 r = anyB (fun l => inB lo hi r (shf w e l 0)) (nn (w (93 + 14 * e))) := by
            rw [cv_one hI he]
            exact anyB_congr (fun l _ => by unfold htB; rw [decide_eq_true hq, Bool.true_and])
          have h0 := cntB_0 (p := fun l => inB lo hi r (shf w e l 0)) (n := nn (w (93 + 14 * e)))
          simp only [f, hcv]
          unfold lnI lnE
          cases inS w set e with
          | false => rfl
          | true =>
            simp only [if_true, Bool.true_and]
            cases hany : anyB (fun l => inB lo hi r (shf w e l 0)) (nn (w (93 + 14 * e))) with
            | false => rw [h0.mpr hany]; rfl
            | true =>
              have : ¬ cntB (fun l => inB lo hi r (shf w e l 0)) (nn (w (93 + 14 * e))) = 0 := fun q => by rw [h0.mp q] at hany; cases hany
              simp only [if_true]; omega
        · rw [decide_eq_false hq, Bool.false_and]
          have : cntB (f r) (nn (w 7)) = 0 := by
            rw [cntB_0, anyB_f]
            intro e _
            simp only [f, cv_plate hq, Bool.and_false]
          rw [this]; rfl
      rw [e1]; exact h M1 f1
    · have hJ1 := hJ.t f1
      refine brGo (by rw [hJ1.1.ne]; exact hn) (by omega) he (s_C_has ?_)
      rw [tb_wA hI he]
      refine b0n (fun c => ?_) (fun c => ?_)
      · have ih := ih M1 f1
        have e1 : (fun r => anyB (f r) (e + 1)) = fun r => anyB (f r) e := by funext r; simp only [anyB, f, c, Bool.false_and, Bool.or_false]
        have e2 : (fun r => twoB (f r) (e + 1)) = fun r => twoB (f r) e := by funext r; simp only [twoB, f, c, Bool.false_and, Bool.and_false, Bool.or_false]
        rw [e1, e2] at ih
        unfold P_Judge_sharedBits_71
        rw [nI_1]; exact ih
      · refine s_C_survey (lo := lo) (hi := hi) hJ1.1 hI hp hJ1.2.2.1.1 hJ1.2.2.2 (fun M2 f2 a2 b2 x4 e4 x3 e3 => ?_)
        have ih := ih M2 (f1.trans f2.t)
        have a2' : M2 69 13 = bitF (cvB w lo hi p (oneE e) 0) (nn (w 9)) := a2
        rw [a2'] at e3 e4
        have e5 : x3 = bitF (fun r => anyB (f r) (e + 1)) (nn (w 9)) := by
          rw [e3, bitF_or (by omega)]
          exact bitF_congr (fun r _ => by simp only [anyB, f, c, Bool.true_and])
        have e6 : x4 = bitF (fun r => twoB (f r) (e + 1)) (nn (w 9)) := by
          rw [e4]
          apply gb_ext
          intro r hr
          rw [gb_or, gb_and, bitF_gb _ _ (by omega) r hr, bitF_gb _ _ (by omega) r hr, bitF_gb _ _ (by omega) r hr, bitF_gb _ _ (by omega) r hr]
          simp only [twoB, f, c, Bool.true_and]
          cases decide (r < nn (w 9)) <;> simp
        rw [e5, e6]
        unfold P_Judge_sharedBits_71
        rw [nI_1]; exact ih
  obtain ⟨j, hj⟩ := key
  refine ⟨j, ?_⟩
  have := hj M (FrT.refl M)
  have z1 : bitF (fun r => anyB (f r) 0) (nn (w 9)) = 0 := (bitF_0 (by omega)).mpr (fun _ _ => rfl)
  have z2 : bitF (fun r => twoB (f r) 0) (nn (w 9)) = 0 := (bitF_0 (by omega)).mpr (fun _ _ => rfl)
  rw [z1, z2] at this
  exact this
theorem s_R_wide {post : Int32 → Mem → Prop} {ex : String → Mem → Prop} {p set : Int32} {sh : Bool} (hD : Dk 1 M w) (hI : WInv w) (hL : Lw M w) (hS : SpOK w (-1) 0 lo hi (nn (w 9)))
    (h : QX post ex M w [IOB] (qp1 (inb p 0 (w 8 - 1)) (bitF (wdB w lo hi (nn p) set sh) (nn (w 9))))) : P_R_wide post ex p set (bi sh) M := by
  refine s_qp1' hD hI hL hS h (fun hp hp3 M1 hJ hpost => b0n (fun c => ?_) (fun c => ?_))
  · subst c
    exact s_C_wideBits hJ hI hp3 (fun M2 f2 => hpost M2 f2.q (f2.lw (Or.inr hJ.2.1)))
  · subst c
    exact s_C_sharedBits hJ hI hp3 (fun M2 f2 => hpost M2 f2.q (f2.lw (Or.inr hJ.2.1)))
end INSIDE
