/-! THE CLASS: ghosts, look, lines -/
theorem s_C_ghost {post : Int32 → Mem → Prop} {w : Nat → Int32} {r : Nat} {M : Mem} (hD : Dk 1 M w) (hI : WInv w) (hr : r < 24) (h : post (bi (ghB w r)) M) : P_Shelf_mayBeGhost post (nI r) M := by
  obtain ⟨hp, hp3⟩ := hI.pr hr
  obtain ⟨hn, hn24⟩ := hI.nr
  unfold P_Shelf_mayBeGhost
  rw [nI_clamp (by omega), hD.rp hr, hp, nI_clamp (by omega), hD.pgh hp3]
  have hg := (hI.pl hp3).2.2.2.2
  unfold ghB at h
  generalize hG : w (180 + 5 * nn (w (191 + 5 * r))) = gh at *
  refine ⟨vin_nI hr (by omega), vin_nI hp3 (by omega), fun c => ?_, fun c => ?_⟩
  · have hpos : 0 < gh.toInt := by
      unfold rg at hg
      have : gh.toInt ≠ 0 := fun e => c (by rw [eqI]; exact e)
      omega
    rw [decide_eq_true hpos, Bool.true_and] at h
    have hgp : ∀ x, ghp w r x = (decide (x ≠ r) && decide (w (191 + 5 * x) = w (191 + 5 * r)) && decide (7 ≤ (w (194 + 5 * x)).toInt) && decide (jabs (jabs (w (192 + 5 * x) - w (192 + 5 * r)) - gh) ≤ 1)) := fun x => by unfold ghp; rw [hG]
    generalize ghp w r = F at *
    have key : ∃ j, anyB F 0 = false → P_Shelf_mayBeGhost_20 post j (nI r) (nI (nn (w (191 + 5 * r)))) (nI 0) M := by
      refine lpN (R := fun j x => anyB F x = false → P_Shelf_mayBeGhost_20 post j (nI r) (nI (nn (w (191 + 5 * r)))) (nI x) M) (N := nn (w 9)) (fun j hx => ?_) (fun j x hx ih hall => ?_)
      · rw [hx] at h
        exact brSt (by rw [hD.nr]; exact hn) h
      · have hx24 : x < 24 := by omega
        have e5 : anyB F (x + 1) = F x := by simp only [anyB, hall, Bool.false_or]
        have no : F x = false → P_Shelf_mayBeGhost_87 post (P_Shelf_mayBeGhost_20 post j) (nI r) (w (191 + 5 * r)) (nI x) M := by
          intro e
          unfold P_Shelf_mayBeGhost_87
          rw [hp, nI_1]; exact ih (by rw [e5, e])
        have eF := hgp x
        refine brGo (by rw [hD.nr]; exact hn) (by omega) hx ?_
        rw [nI_eq (by omega) (by omega), show (nI x).toNatClampNeg = x from nI_clamp (by omega), show (nI r).toNatClampNeg = r from nI_clamp (by omega), hD.rp hx24, hD.rs hx24, hD.rl hx24, hD.rl hr, ← hp]
        refine ⟨fun c1 => no (by rw [eF, c1]; simp), fun c1 => ⟨vin_nI hx24 (by omega), fun c2 => no (by rw [eF, decide_eq_false c2]; simp), fun c2 => ⟨vin_nI hx24 (by omega), fun c3 => no ?_, fun c3 => ⟨vin_nI hx24 (by omega), vin_nI hr (by omega), s_abs ⟨by rw [hp]; exact vin_nI hp3 (by omega), s_R_within ?_⟩⟩⟩⟩⟩
        · rw [ltI] at c3
          have : (7 : Int32).toInt = 7 := rfl
          rw [eF, decide_eq_false (show ¬ 7 ≤ (w (194 + 5 * x)).toInt by omega)]; simp
        · rw [hp, nI_clamp (by omega), hD.pgh hp3, ← hp, hG]
          have h1 := (hI.rd hx24).2.1
          have h2 := (hI.rd hr).2.1
          have ha : rg (jabs (w (192 + 5 * x) - w (192 + 5 * r))) 0 100000 := by
            unfold rg at h1 h2 ⊢
            have hsub : (w (192 + 5 * x) - w (192 + 5 * r)).toInt = _ := subI (by omega) (by omega)
            rw [jabsI (by omega), hsub]
            split <;> omega
          have hn1 := near1 ha (rg_mono hg (by omega) (by omega))
          rw [hn1]
          have e7 : (7 : Int32).toInt = 7 := rfl
          rw [ltI] at c3
          have eF2 : F x = decide (¬ 1 < jabs (jabs (w (192 + 5 * x) - w (192 + 5 * r)) - gh)) := by
            rw [eF, decide_eq_true c1, decide_eq_true c2, decide_eq_true (show 7 ≤ (w (194 + 5 * x)).toInt by omega), Bool.true_and, Bool.true_and, Bool.true_and]
            rw [Bool.eq_iff_iff, decide_eq_true_eq, decide_eq_true_eq, leI, ltI]; omega
          rw [← eF2]
          refine b0n (fun c4 => no c4) (fun c4 => ?_)
          have : anyB F (nn (w 9)) = true := anyB_iff.mpr ⟨x, hx, c4⟩
          rw [this] at h; exact h
    obtain ⟨j, hj⟩ := key
    have := hj rfl
    rw [← hp] at this ⊢
    exact ⟨j, this⟩
  · rw [c, decide_eq_false (by decide), Bool.false_and] at h
    exact h
theorem rg01 {w : Nat → Int32} {i : Nat} (h : rg (w i) 0 1) : w i = 0 ∨ w i = 1 := by
  unfold rg at h
  rcases (by omega : (w i).toInt = 0 ∨ (w i).toInt = 1) with q | q
  · left; rw [eqI]; exact q
  · right; rw [eqI]; exact q
theorem s_R_look {post : Int32 → Mem → Prop} {ex : String → Mem → Prop} {w : Nat → Int32} {r what : Int32} {M : Mem} (hD : Dk 1 M w) (hI : WInv w) (hL : Lw M w) (h : QX post ex M w [IOB, NSE] (if !inb r 0 (w 9 - 1) then qi 1 0 else if !inb what 0 8 then qi 2 0 else qi 0 (lkA w (nn r) what))) : P_R_look post ex r what M := by
  unfold P_R_look
  rw [hD.nr]
  refine s_R_within (s_want (fun c1 => s_R_within (s_want (fun c2 => ?_) (fun c2 => ?_))) (fun c1 => ?_))
  · simp only [c1, c2, Bool.not_true, Bool.false_eq_true, if_false] at h
    obtain ⟨he, he9, he24⟩ := hI.inr c1
    rw [he] at ⊢
    generalize nn r = n at *
    have hrd := hI.rd he24
    have htp := hI.tp (d := w (193 + 5 * n)) hrd.2.1
    unfold rg at htp
    rw [nI_clamp (by omega), hD.rl he24, hD.rd he24]
    have hv : vp_in (nI n) 24 := vin_nI he24 (by omega)
    have go : ∀ v, v = lkA w n what → post v M := fun v hv => by rw [hv]; exact h.go (FrQ.refl M) hL
    refine ⟨hv, hv, s_C_truePlace hD hI (rg01 hrd.2.2.1) ⟨fun q => ⟨hv, go _ ?_⟩, fun n0 => ⟨fun q => ⟨hv, go _ ?_⟩, fun n1 => ⟨fun q => ⟨hv, ?_⟩, fun n2 => ⟨fun q => ⟨hv, go _ ?_⟩, fun n3 => ⟨fun q => ⟨hv, go _ ?_⟩, fun n4 => ⟨fun q => go _ ?_, fun n5 => ⟨fun q => ?_, fun n6 => ⟨fun q => ?_, fun n7 => ?_⟩⟩⟩⟩⟩⟩⟩⟩⟩
    · rw [hD.rp he24, q]; rfl
    · rw [hD.rl he24, q]; unfold lkA; rw [if_neg (by decide), show nn (1 : Int32) = 1 from rfl]; congr 1; omega
    · rw [hD.rd he24]
      have go2 : ∀ b : Bool, w (193 + 5 * n) = bi b → P_R_look_132 post ex (bi b) M := fun b hb => go _ (by rw [← hb, q]; unfold lkA; rw [if_neg (by decide), show nn (2 : Int32) = 2 from rfl]; congr 1; omega)
      rcases rg01 hrd.2.2.1 with q0 | q0
      · exact ⟨fun _ => go2 false q0, fun q1 => absurd q0 q1⟩
      · exact ⟨fun q1 => absurd (q0.symm.trans q1) (by decide), fun _ => go2 true q0⟩
    · rw [hD.rs he24, q]; unfold lkA; rw [if_neg (by decide), show nn (3 : Int32) = 3 from rfl]; congr 1; omega
    · rw [hD.rw he24, q]; unfold lkA; rw [if_neg (by decide), show nn (4 : Int32) = 4 from rfl]; congr 1; omega
    · rw [q]; unfold lkA; rw [if_pos (by decide), if_neg (by decide), if_pos rfl]
    · rw [I_ofS (tpl w (w (192 + 5 * n)) (w (193 + 5 * n)))]
      refine s_C_spanEnd (most := false) hD hI hL (by omega) (fun M1 f1 hL1 => ?_)
      have := h.go f1.q hL1
      rw [q] at this
      unfold lkA at this
      rw [if_pos (by decide), if_neg (by decide), if_neg (by decide)] at this
      exact this
    · rw [I_ofS (tpl w (w (192 + 5 * n)) (w (193 + 5 * n)))]
      refine s_C_spanEnd (most := true) hD hI hL (by omega) (fun M1 f1 hL1 => ?_)
      have := h.go f1.q hL1
      rw [q] at this
      unfold lkA at this
      rw [if_pos (by decide), if_neg (by decide), if_neg (by decide)] at this
      exact this
    · have e8 : what = 8 := by
        simp only [inb, decide_eq_true_eq, leI] at c2
        rw [eqI] at n0 n1 n2 n3 n4 n5 n6 n7 ⊢
        have a0 : (0 : Int32).toInt = 0 := rfl
        have a1 : (1 : Int32).toInt = 1 := rfl
        have a2 : (2 : Int32).toInt = 2 := rfl
        have a3 : (3 : Int32).toInt = 3 := rfl
        have a4 : (4 : Int32).toInt = 4 := rfl
        have a5 : (5 : Int32).toInt = 5 := rfl
        have a6 : (6 : Int32).toInt = 6 := rfl
        have a7 : (7 : Int32).toInt = 7 := rfl
        have a8 : (8 : Int32).toInt = 8 := rfl
        omega
      refine s_C_ghost hD hI he24 (bsel (F := fun z => P_R_look_179 post ex z M) (go _ ?_))
      rw [e8]; unfold lkA; rw [if_pos (by decide), if_pos rfl]
  · simp only [c1, c2, Bool.not_true, Bool.not_false, Bool.false_eq_true, if_false, if_true] at h; exact h.bad2
  · simp only [c1, Bool.not_false, if_true] at h; exact h.bad1
theorem at6 (e l : Nat) : nI e * 6 + nI l = nI (6 * e + l) := by rw [lit_nI 6, pk_mul, nI_add]; congr 1; omega
theorem airB_iff {w : Nat → Int32} (hI : WInv w) {e : Nat} (he : e < 6) : (airB w e = true ↔ ¬ w (92 + 14 * e) = 0) := by
  have h := rg01 (hI.el he).1
  unfold airB
  rw [decide_eq_true_eq]
  rcases h with h | h <;> rw [h] <;> decide
theorem s_C_liesAt {post : Int32 → Mem → Prop} {w : Nat → Int32} {e l : Nat} {v : Int32} {M : Mem} (hD : Dk 1 M w) (hI : WInv w) (he : e < 6) (hl : l < 6) (h : post (shf w e l v) M) : P_Table_liesAt post (nI e) (nI l) v M := by
  intro x4 e4
  rw [at6] at e4
  subst e4
  rw [nI_clamp (by omega), nI_clamp (by omega), hD.air he, hD.wv he hl]
  unfold shf at h
  have ha := airB_iff hI he
  refine ⟨vin_nI he (by omega), fun c => ⟨vin_nI (by omega) (by omega), fun v2 e2 => ?_⟩, fun c => ⟨vin_nI (by omega) (by omega), ?_⟩⟩
  · have : airB w e = false := by
      cases hq : airB w e with
      | false => rfl
      | true => exact absurd c (ha.mp hq)
    rw [this] at h
    rw [e2]; exact h
  · rw [ha.mpr c] at h; exact h
theorem s_R_lies {post : Int32 → Mem → Prop} {ex : String → Mem → Prop} {w : Nat → Int32} {e l v : Int32} {M : Mem} (hD : Dk 1 M w) (hI : WInv w) (hL : Lw M w) (h : QX post ex M w [IOB, IAE] (if !lnB w e l then qi 1 0 else if !inb v (-50) 50 then qi 2 0 else qi 0 (shf w (nn e) (nn l) v))) : P_R_lies post ex e l v M := by
  refine s_wantLine hD hI (fun c1 => s_wantSpeed (fun c2 => ?_) (fun c2 => ?_)) (fun c1 => ?_)
  · simp only [c1, c2, Bool.not_true, Bool.false_eq_true, if_false] at h
    simp only [lnB, Bool.and_eq_true] at c1
    obtain ⟨he, he7, he6⟩ := hI.ine c1.1
    obtain ⟨hl, hl7, hl6⟩ := hI.inl he6 c1.2
    rw [he, hl]
    exact s_C_liesAt hD hI he6 hl6 (h.go (FrQ.refl M) hL)
  · simp only [c1, c2, Bool.not_true, Bool.not_false, Bool.false_eq_true, if_false, if_true] at h; exact h.bad2
  · simp only [c1, Bool.not_false, if_true] at h; exact h.bad1
theorem s_C_mustShow {post : Int32 → Mem → Prop} {w : Nat → Int32} {p : Nat} {v s : Int32} {M : Mem} (hD : Dk 1 M w) (hp : p < 3) (h : post (bi (inb v (w (178 + 5 * p)) (w (179 + 5 * p)) && decide (¬ (s * w (176 + 5 * p)) * w (177 + 5 * p) < 30))) M) : P_Shelf_mustShow post (nI p) v s M := by
  have hv : vp_in (nI p) 3 := vin_nI hp (by omega)
  unfold P_Shelf_mustShow
  rw [nI_clamp (by omega), hD.pfrom hp, hD.pto hp]
  refine ⟨hv, hv, s_R_within (b0n (fun c => ?_) (fun c => ⟨hv, hv, ?_⟩))⟩
  · rw [c, Bool.false_and] at h; exact ⟨Or.inl rfl, h⟩
  · rw [c, Bool.true_and] at h
    rw [hD.ptime hp, hD.pslit hp]
    refine ⟨fun q => ?_, fun q => ?_⟩
    · rw [decide_eq_false (fun h => h q)] at h; exact ⟨Or.inl rfl, h⟩
    · rw [decide_eq_true q] at h; exact ⟨Or.inr rfl, h⟩
/-- at rest a line lies at its wave -/
theorem shf_0 {w : Nat → Int32} (hI : WInv w) {e l : Nat} (he : e < 6) (hl : l < 6) : shf w e l 0 = w (94 + 14 * e + 2 * l) := by
  unfold shf
  split
  · rfl
  · have h1 := ((hI.el he).2.2 l hl).1
    unfold rg at h1
    have e1 : (1000 : Int32) + 0 = I 1000 := rfl
    rw [e1, show (1000 : Int32) = I 1000 from rfl, I_ofS (w (94 + 14 * e + 2 * l)), I_mul, I_div (by omega) (by omega)]
    congr 1
    omega
theorem s_R_must {post : Int32 → Mem → Prop} {ex : String → Mem → Prop} {w : Nat → Int32} {p e l : Int32} {M : Mem} (hD : Dk 1 M w) (hI : WInv w) (hL : Lw M w) (h : QX post ex M w [IOB] (if !inb p 0 (w 8 - 1) || !lnB w e l then qi 1 0 else qi 0 (bi (moB w (nn p) (nn e) (nn l) 0)))) : P_R_must post ex p e l M := by
  refine s_wantPlate hD (fun c1 => s_wantLine hD hI (fun c2 x4 e4 => ?_) (fun c2 => ?_)) (fun c1 => ?_)
  · simp only [c1, c2, Bool.not_true, Bool.or_self, Bool.false_eq_true, if_false] at h
    simp only [lnB, Bool.and_eq_true] at c2
    obtain ⟨hp, hp3⟩ := hI.inp c1
    obtain ⟨he, he7, he6⟩ := hI.ine c2.1
    obtain ⟨hl, hl7, hl6⟩ := hI.inl he6 c2.2
    rw [he, hl, at6] at e4
    rw [hp, e4, nI_clamp (by omega), hD.wv he6 hl6, hD.st he6 hl6]
    refine ⟨vin_nI (by omega) (by omega), vin_nI (by omega) (by omega), s_C_mustShow hD hp3 ⟨bi_01 _, ?_⟩⟩
    have := h.go (FrQ.refl M) hL
    unfold moB msB at this
    rw [shf_0 hI he6 hl6] at this
    exact this
  · simp only [c1, c2, Bool.not_true, Bool.not_false, Bool.or_true, if_true] at h; exact h.bad1
  · simp only [c1, Bool.not_false, Bool.true_or, if_true] at h; exact h.bad1
