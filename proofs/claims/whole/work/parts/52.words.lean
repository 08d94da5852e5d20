/-! THE REFERENCE'S WORDS (printed by gen/words.py) -/
theorem s_M_isWord_w0 {post : Int32 → Mem → Prop} {M : Mem} {t : Nat → Int32} {b e : Nat} (he : e ≤ 400) (hbe : b ≤ e) (h20 : M 0 20 = nI e) (h22 : M 0 22 = nI b) (ht : M 10 = t) (h : post (bi (decide (wd t b e = wB 0))) M) : P_M_isWord_w0 post M := by
  have hl : wlen 0 >>> ((0 : Int32) &&& 31) = nI 2 := by decide
  have es : M 0 20 - M 0 22 = nI (e - b) := by rw [h20, h22, nI_I, nI_I, I_sub, nI_I]; congr 1; omega
  have hch : ∀ k : Fin 2, i2c (wch 0 k.1 &&& 255) = (wB 0).getD k.1 0 := by decide
  show (¬ M 0 20 - M 0 22 = wlen 0 >>> ((0 : Int32) &&& 31) → _) ∧ (M 0 20 - M 0 22 = wlen 0 >>> ((0 : Int32) &&& 31) → _)
  rw [es, hl, nI_eq (by omega) (by omega)]
  have hlen : (wB 0).length = 2 := by decide
  refine ⟨fun c => ?_, fun c => ?_⟩
  · have e1 : ¬ wd t b e = wB 0 := fun q => c (by rw [← hlen]; exact (wd_iff.mp q).1)
    rw [decide_eq_false e1] at h
    exact ⟨1, fun _ => ⟨Or.inl rfl, h⟩, fun q => absurd rfl q⟩
  · have hq : decide (wd t b e = wB 0) = allB (fun n => decide (t (b + n) = (wB 0).getD n 0)) 2 := by
      rw [Bool.eq_iff_iff, decide_eq_true_eq, wd_iff, hlen, allB_iff]
      simp only [decide_eq_true_eq]
      exact ⟨fun q => q.2, fun q => ⟨c, q⟩⟩
    rw [hq] at h
    generalize hF : (fun n => decide (t (b + n) = (wB 0).getD n 0)) = F at h
    refine lpN (R := fun q k => P_M_isWord_w0_24 post q (bi (allB F k)) (nI k) M) (N := 2) (fun q => ?_) (fun q k hk ih => ?_)
    · refine b0n (fun c2 => ⟨bi_01 _, h⟩) (fun c2 => ?_)
      show (wlen 0 >>> ((0 : Int32) &&& 31) ≤ nI 2 → _) ∧ _
      rw [hl]
      exact brSt (N := 2) rfl ⟨bi_01 _, h⟩
    · refine b0n (fun c2 => ?_) (fun c2 => ?_)
      · rw [allB_le (Nat.le_of_lt hk) c2] at h
        rw [c2]; exact ⟨bi_01 _, h⟩
      · show (wlen 0 >>> ((0 : Int32) &&& 31) ≤ nI k → _) ∧ _
        rw [hl]
        refine brGo (N := 2) rfl (by omega) hk ?_
        have ea : M 0 22 + nI k = nI (b + k) := by rw [h22, nI_add]
        rw [ea]
        refine ⟨vin_nI (by omega) (by omega), vin_nI (N := 2) (by omega) (by omega), ?_, ?_⟩
        · show nI k < wlen 0
          rw [show wlen 0 = nI 2 from rfl, ltI, nI_toI (by omega), nI_toI (by omega)]; omega
        · rw [nI_clamp (by omega), nI_clamp (by omega), hch ⟨k, hk⟩, ht]
          have e5 : allB F (k + 1) = F k := by simp only [allB, c2, Bool.true_and]
          refine ⟨fun c3 => ?_, fun c3 => ?_⟩
          · have e6 : F k = false := by rw [← hF]; exact decide_eq_false c3
            rw [e5, e6, ← nI_1] at ih; exact ih
          · have e6 : F k = true := by rw [← hF]; exact decide_eq_true c3
            rw [e5, e6, ← nI_1] at ih; exact ih
theorem s_M_isWord_w1 {post : Int32 → Mem → Prop} {M : Mem} {t : Nat → Int32} {b e : Nat} (he : e ≤ 400) (hbe : b ≤ e) (h20 : M 0 20 = nI e) (h22 : M 0 22 = nI b) (ht : M 10 = t) (h : post (bi (decide (wd t b e = wB 1))) M) : P_M_isWord_w1 post M := by
  have hl : wlen 1 >>> ((0 : Int32) &&& 31) = nI 3 := by decide
  have es : M 0 20 - M 0 22 = nI (e - b) := by rw [h20, h22, nI_I, nI_I, I_sub, nI_I]; congr 1; omega
  have hch : ∀ k : Fin 3, i2c (wch 1 k.1 &&& 255) = (wB 1).getD k.1 0 := by decide
  show (¬ M 0 20 - M 0 22 = wlen 1 >>> ((0 : Int32) &&& 31) → _) ∧ (M 0 20 - M 0 22 = wlen 1 >>> ((0 : Int32) &&& 31) → _)
  rw [es, hl, nI_eq (by omega) (by omega)]
  have hlen : (wB 1).length = 3 := by decide
  refine ⟨fun c => ?_, fun c => ?_⟩
  · have e1 : ¬ wd t b e = wB 1 := fun q => c (by rw [← hlen]; exact (wd_iff.mp q).1)
    rw [decide_eq_false e1] at h
    exact ⟨1, fun _ => ⟨Or.inl rfl, h⟩, fun q => absurd rfl q⟩
  · have hq : decide (wd t b e = wB 1) = allB (fun n => decide (t (b + n) = (wB 1).getD n 0)) 3 := by
      rw [Bool.eq_iff_iff, decide_eq_true_eq, wd_iff, hlen, allB_iff]
      simp only [decide_eq_true_eq]
      exact ⟨fun q => q.2, fun q => ⟨c, q⟩⟩
    rw [hq] at h
    generalize hF : (fun n => decide (t (b + n) = (wB 1).getD n 0)) = F at h
    refine lpN (R := fun q k => P_M_isWord_w1_24 post q (bi (allB F k)) (nI k) M) (N := 3) (fun q => ?_) (fun q k hk ih => ?_)
    · refine b0n (fun c2 => ⟨bi_01 _, h⟩) (fun c2 => ?_)
      show (wlen 1 >>> ((0 : Int32) &&& 31) ≤ nI 3 → _) ∧ _
      rw [hl]
      exact brSt (N := 3) rfl ⟨bi_01 _, h⟩
    · refine b0n (fun c2 => ?_) (fun c2 => ?_)
      · rw [allB_le (Nat.le_of_lt hk) c2] at h
        rw [c2]; exact ⟨bi_01 _, h⟩
      · show (wlen 1 >>> ((0 : Int32) &&& 31) ≤ nI k → _) ∧ _
        rw [hl]
        refine brGo (N := 3) rfl (by omega) hk ?_
        have ea : M 0 22 + nI k = nI (b + k) := by rw [h22, nI_add]
        rw [ea]
        refine ⟨vin_nI (by omega) (by omega), vin_nI (N := 3) (by omega) (by omega), ?_, ?_⟩
        · show nI k < wlen 1
          rw [show wlen 1 = nI 3 from rfl, ltI, nI_toI (by omega), nI_toI (by omega)]; omega
        · rw [nI_clamp (by omega), nI_clamp (by omega), hch ⟨k, hk⟩, ht]
          have e5 : allB F (k + 1) = F k := by simp only [allB, c2, Bool.true_and]
          refine ⟨fun c3 => ?_, fun c3 => ?_⟩
          · have e6 : F k = false := by rw [← hF]; exact decide_eq_false c3
            rw [e5, e6, ← nI_1] at ih; exact ih
          · have e6 : F k = true := by rw [← hF]; exact decide_eq_true c3
            rw [e5, e6, ← nI_1] at ih; exact ih
theorem s_M_isWord_w2 {post : Int32 → Mem → Prop} {M : Mem} {t : Nat → Int32} {b e : Nat} (he : e ≤ 400) (hbe : b ≤ e) (h20 : M 0 20 = nI e) (h22 : M 0 22 = nI b) (ht : M 10 = t) (h : post (bi (decide (wd t b e = wB 2))) M) : P_M_isWord_w2 post M := by
  have hl : wlen 2 >>> ((0 : Int32) &&& 31) = nI 3 := by decide
  have es : M 0 20 - M 0 22 = nI (e - b) := by rw [h20, h22, nI_I, nI_I, I_sub, nI_I]; congr 1; omega
  have hch : ∀ k : Fin 3, i2c (wch 2 k.1 &&& 255) = (wB 2).getD k.1 0 := by decide
  show (¬ M 0 20 - M 0 22 = wlen 2 >>> ((0 : Int32) &&& 31) → _) ∧ (M 0 20 - M 0 22 = wlen 2 >>> ((0 : Int32) &&& 31) → _)
  rw [es, hl, nI_eq (by omega) (by omega)]
  have hlen : (wB 2).length = 3 := by decide
  refine ⟨fun c => ?_, fun c => ?_⟩
  · have e1 : ¬ wd t b e = wB 2 := fun q => c (by rw [← hlen]; exact (wd_iff.mp q).1)
    rw [decide_eq_false e1] at h
    exact ⟨1, fun _ => ⟨Or.inl rfl, h⟩, fun q => absurd rfl q⟩
  · have hq : decide (wd t b e = wB 2) = allB (fun n => decide (t (b + n) = (wB 2).getD n 0)) 3 := by
      rw [Bool.eq_iff_iff, decide_eq_true_eq, wd_iff, hlen, allB_iff]
      simp only [decide_eq_true_eq]
      exact ⟨fun q => q.2, fun q => ⟨c, q⟩⟩
    rw [hq] at h
    generalize hF : (fun n => decide (t (b + n) = (wB 2).getD n 0)) = F at h
    refine lpN (R := fun q k => P_M_isWord_w2_24 post q (bi (allB F k)) (nI k) M) (N := 3) (fun q => ?_) (fun q k hk ih => ?_)
    · refine b0n (fun c2 => ⟨bi_01 _, h⟩) (fun c2 => ?_)
      show (wlen 2 >>> ((0 : Int32) &&& 31) ≤ nI 3 → _) ∧ _
      rw [hl]
      exact brSt (N := 3) rfl ⟨bi_01 _, h⟩
    · refine b0n (fun c2 => ?_) (fun c2 => ?_)
      · rw [allB_le (Nat.le_of_lt hk) c2] at h
        rw [c2]; exact ⟨bi_01 _, h⟩
      · show (wlen 2 >>> ((0 : Int32) &&& 31) ≤ nI k → _) ∧ _
        rw [hl]
        refine brGo (N := 3) rfl (by omega) hk ?_
        have ea : M 0 22 + nI k = nI (b + k) := by rw [h22, nI_add]
        rw [ea]
        refine ⟨vin_nI (by omega) (by omega), vin_nI (N := 3) (by omega) (by omega), ?_, ?_⟩
        · show nI k < wlen 2
          rw [show wlen 2 = nI 3 from rfl, ltI, nI_toI (by omega), nI_toI (by omega)]; omega
        · rw [nI_clamp (by omega), nI_clamp (by omega), hch ⟨k, hk⟩, ht]
          have e5 : allB F (k + 1) = F k := by simp only [allB, c2, Bool.true_and]
          refine ⟨fun c3 => ?_, fun c3 => ?_⟩
          · have e6 : F k = false := by rw [← hF]; exact decide_eq_false c3
            rw [e5, e6, ← nI_1] at ih; exact ih
          · have e6 : F k = true := by rw [← hF]; exact decide_eq_true c3
            rw [e5, e6, ← nI_1] at ih; exact ih
theorem s_M_isWord_w3 {post : Int32 → Mem → Prop} {M : Mem} {t : Nat → Int32} {b e : Nat} (he : e ≤ 400) (hbe : b ≤ e) (h20 : M 0 20 = nI e) (h22 : M 0 22 = nI b) (ht : M 10 = t) (h : post (bi (decide (wd t b e = wB 3))) M) : P_M_isWord_w3 post M := by
  have hl : wlen 3 >>> ((0 : Int32) &&& 31) = nI 4 := by decide
  have es : M 0 20 - M 0 22 = nI (e - b) := by rw [h20, h22, nI_I, nI_I, I_sub, nI_I]; congr 1; omega
  have hch : ∀ k : Fin 4, i2c (wch 3 k.1 &&& 255) = (wB 3).getD k.1 0 := by decide
  show (¬ M 0 20 - M 0 22 = wlen 3 >>> ((0 : Int32) &&& 31) → _) ∧ (M 0 20 - M 0 22 = wlen 3 >>> ((0 : Int32) &&& 31) → _)
  rw [es, hl, nI_eq (by omega) (by omega)]
  have hlen : (wB 3).length = 4 := by decide
  refine ⟨fun c => ?_, fun c => ?_⟩
  · have e1 : ¬ wd t b e = wB 3 := fun q => c (by rw [← hlen]; exact (wd_iff.mp q).1)
    rw [decide_eq_false e1] at h
    exact ⟨1, fun _ => ⟨Or.inl rfl, h⟩, fun q => absurd rfl q⟩
  · have hq : decide (wd t b e = wB 3) = allB (fun n => decide (t (b + n) = (wB 3).getD n 0)) 4 := by
      rw [Bool.eq_iff_iff, decide_eq_true_eq, wd_iff, hlen, allB_iff]
      simp only [decide_eq_true_eq]
      exact ⟨fun q => q.2, fun q => ⟨c, q⟩⟩
    rw [hq] at h
    generalize hF : (fun n => decide (t (b + n) = (wB 3).getD n 0)) = F at h
    refine lpN (R := fun q k => P_M_isWord_w3_24 post q (bi (allB F k)) (nI k) M) (N := 4) (fun q => ?_) (fun q k hk ih => ?_)
    · refine b0n (fun c2 => ⟨bi_01 _, h⟩) (fun c2 => ?_)
      show (wlen 3 >>> ((0 : Int32) &&& 31) ≤ nI 4 → _) ∧ _
      rw [hl]
      exact brSt (N := 4) rfl ⟨bi_01 _, h⟩
    · refine b0n (fun c2 => ?_) (fun c2 => ?_)
      · rw [allB_le (Nat.le_of_lt hk) c2] at h
        rw [c2]; exact ⟨bi_01 _, h⟩
      · show (wlen 3 >>> ((0 : Int32) &&& 31) ≤ nI k → _) ∧ _
        rw [hl]
        refine brGo (N := 4) rfl (by omega) hk ?_
        have ea : M 0 22 + nI k = nI (b + k) := by rw [h22, nI_add]
        rw [ea]
        refine ⟨vin_nI (by omega) (by omega), vin_nI (N := 4) (by omega) (by omega), ?_, ?_⟩
        · show nI k < wlen 3
          rw [show wlen 3 = nI 4 from rfl, ltI, nI_toI (by omega), nI_toI (by omega)]; omega
        · rw [nI_clamp (by omega), nI_clamp (by omega), hch ⟨k, hk⟩, ht]
          have e5 : allB F (k + 1) = F k := by simp only [allB, c2, Bool.true_and]
          refine ⟨fun c3 => ?_, fun c3 => ?_⟩
          · have e6 : F k = false := by rw [← hF]; exact decide_eq_false c3
            rw [e5, e6, ← nI_1] at ih; exact ih
          · have e6 : F k = true := by rw [← hF]; exact decide_eq_true c3
            rw [e5, e6, ← nI_1] at ih; exact ih
theorem s_M_isWord_w4 {post : Int32 → Mem → Prop} {M : Mem} {t : Nat → Int32} {b e : Nat} (he : e ≤ 400) (hbe : b ≤ e) (h20 : M 0 20 = nI e) (h22 : M 0 22 = nI b) (ht : M 10 = t) (h : post (bi (decide (wd t b e = wB 4))) M) : P_M_isWord_w4 post M := by
  have hl : wlen 4 >>> ((0 : Int32) &&& 31) = nI 3 := by decide
  have es : M 0 20 - M 0 22 = nI (e - b) := by rw [h20, h22, nI_I, nI_I, I_sub, nI_I]; congr 1; omega
  have hch : ∀ k : Fin 3, i2c (wch 4 k.1 &&& 255) = (wB 4).getD k.1 0 := by decide
  show (¬ M 0 20 - M 0 22 = wlen 4 >>> ((0 : Int32) &&& 31) → _) ∧ (M 0 20 - M 0 22 = wlen 4 >>> ((0 : Int32) &&& 31) → _)
  rw [es, hl, nI_eq (by omega) (by omega)]
  have hlen : (wB 4).length = 3 := by decide
  refine ⟨fun c => ?_, fun c => ?_⟩
  · have e1 : ¬ wd t b e = wB 4 := fun q => c (by rw [← hlen]; exact (wd_iff.mp q).1)
    rw [decide_eq_false e1] at h
    exact ⟨1, fun _ => ⟨Or.inl rfl, h⟩, fun q => absurd rfl q⟩
  · have hq : decide (wd t b e = wB 4) = allB (fun n => decide (t (b + n) = (wB 4).getD n 0)) 3 := by
      rw [Bool.eq_iff_iff, decide_eq_true_eq, wd_iff, hlen, allB_iff]
      simp only [decide_eq_true_eq]
      exact ⟨fun q => q.2, fun q => ⟨c, q⟩⟩
    rw [hq] at h
    generalize hF : (fun n => decide (t (b + n) = (wB 4).getD n 0)) = F at h
    refine lpN (R := fun q k => P_M_isWord_w4_24 post q (bi (allB F k)) (nI k) M) (N := 3) (fun q => ?_) (fun q k hk ih => ?_)
    · refine b0n (fun c2 => ⟨bi_01 _, h⟩) (fun c2 => ?_)
      show (wlen 4 >>> ((0 : Int32) &&& 31) ≤ nI 3 → _) ∧ _
      rw [hl]
      exact brSt (N := 3) rfl ⟨bi_01 _, h⟩
    · refine b0n (fun c2 => ?_) (fun c2 => ?_)
      · rw [allB_le (Nat.le_of_lt hk) c2] at h
        rw [c2]; exact ⟨bi_01 _, h⟩
      · show (wlen 4 >>> ((0 : Int32) &&& 31) ≤ nI k → _) ∧ _
        rw [hl]
        refine brGo (N := 3) rfl (by omega) hk ?_
        have ea : M 0 22 + nI k = nI (b + k) := by rw [h22, nI_add]
        rw [ea]
        refine ⟨vin_nI (by omega) (by omega), vin_nI (N := 3) (by omega) (by omega), ?_, ?_⟩
        · show nI k < wlen 4
          rw [show wlen 4 = nI 3 from rfl, ltI, nI_toI (by omega), nI_toI (by omega)]; omega
        · rw [nI_clamp (by omega), nI_clamp (by omega), hch ⟨k, hk⟩, ht]
          have e5 : allB F (k + 1) = F k := by simp only [allB, c2, Bool.true_and]
          refine ⟨fun c3 => ?_, fun c3 => ?_⟩
          · have e6 : F k = false := by rw [← hF]; exact decide_eq_false c3
            rw [e5, e6, ← nI_1] at ih; exact ih
          · have e6 : F k = true := by rw [← hF]; exact decide_eq_true c3
            rw [e5, e6, ← nI_1] at ih; exact ih
theorem s_M_isWord_w5 {post : Int32 → Mem → Prop} {M : Mem} {t : Nat → Int32} {b e : Nat} (he : e ≤ 400) (hbe : b ≤ e) (h20 : M 0 20 = nI e) (h22 : M 0 22 = nI b) (ht : M 10 = t) (h : post (bi (decide (wd t b e = wB 5))) M) : P_M_isWord_w5 post M := by
  have hl : wlen 5 >>> ((0 : Int32) &&& 31) = nI 4 := by decide
  have es : M 0 20 - M 0 22 = nI (e - b) := by rw [h20, h22, nI_I, nI_I, I_sub, nI_I]; congr 1; omega
  have hch : ∀ k : Fin 4, i2c (wch 5 k.1 &&& 255) = (wB 5).getD k.1 0 := by decide
  show (¬ M 0 20 - M 0 22 = wlen 5 >>> ((0 : Int32) &&& 31) → _) ∧ (M 0 20 - M 0 22 = wlen 5 >>> ((0 : Int32) &&& 31) → _)
  rw [es, hl, nI_eq (by omega) (by omega)]
  have hlen : (wB 5).length = 4 := by decide
  refine ⟨fun c => ?_, fun c => ?_⟩
  · have e1 : ¬ wd t b e = wB 5 := fun q => c (by rw [← hlen]; exact (wd_iff.mp q).1)
    rw [decide_eq_false e1] at h
    exact ⟨1, fun _ => ⟨Or.inl rfl, h⟩, fun q => absurd rfl q⟩
  · have hq : decide (wd t b e = wB 5) = allB (fun n => decide (t (b + n) = (wB 5).getD n 0)) 4 := by
      rw [Bool.eq_iff_iff, decide_eq_true_eq, wd_iff, hlen, allB_iff]
      simp only [decide_eq_true_eq]
      exact ⟨fun q => q.2, fun q => ⟨c, q⟩⟩
    rw [hq] at h
    generalize hF : (fun n => decide (t (b + n) = (wB 5).getD n 0)) = F at h
    refine lpN (R := fun q k => P_M_isWord_w5_24 post q (bi (allB F k)) (nI k) M) (N := 4) (fun q => ?_) (fun q k hk ih => ?_)
    · refine b0n (fun c2 => ⟨bi_01 _, h⟩) (fun c2 => ?_)
      show (wlen 5 >>> ((0 : Int32) &&& 31) ≤ nI 4 → _) ∧ _
      rw [hl]
      exact brSt (N := 4) rfl ⟨bi_01 _, h⟩
    · refine b0n (fun c2 => ?_) (fun c2 => ?_)
      · rw [allB_le (Nat.le_of_lt hk) c2] at h
        rw [c2]; exact ⟨bi_01 _, h⟩
      · show (wlen 5 >>> ((0 : Int32) &&& 31) ≤ nI k → _) ∧ _
        rw [hl]
        refine brGo (N := 4) rfl (by omega) hk ?_
        have ea : M 0 22 + nI k = nI (b + k) := by rw [h22, nI_add]
        rw [ea]
        refine ⟨vin_nI (by omega) (by omega), vin_nI (N := 4) (by omega) (by omega), ?_, ?_⟩
        · show nI k < wlen 5
          rw [show wlen 5 = nI 4 from rfl, ltI, nI_toI (by omega), nI_toI (by omega)]; omega
        · rw [nI_clamp (by omega), nI_clamp (by omega), hch ⟨k, hk⟩, ht]
          have e5 : allB F (k + 1) = F k := by simp only [allB, c2, Bool.true_and]
          refine ⟨fun c3 => ?_, fun c3 => ?_⟩
          · have e6 : F k = false := by rw [← hF]; exact decide_eq_false c3
            rw [e5, e6, ← nI_1] at ih; exact ih
          · have e6 : F k = true := by rw [← hF]; exact decide_eq_true c3
            rw [e5, e6, ← nI_1] at ih; exact ih
theorem s_M_isWord_w6 {post : Int32 → Mem → Prop} {M : Mem} {t : Nat → Int32} {b e : Nat} (he : e ≤ 400) (hbe : b ≤ e) (h20 : M 0 20 = nI e) (h22 : M 0 22 = nI b) (ht : M 10 = t) (h : post (bi (decide (wd t b e = wB 6))) M) : P_M_isWord_w6 post M := by
  have hl : wlen 6 >>> ((0 : Int32) &&& 31) = nI 6 := by decide
  have es : M 0 20 - M 0 22 = nI (e - b) := by rw [h20, h22, nI_I, nI_I, I_sub, nI_I]; congr 1; omega
  have hch : ∀ k : Fin 6, i2c (wch 6 k.1 &&& 255) = (wB 6).getD k.1 0 := by decide
  show (¬ M 0 20 - M 0 22 = wlen 6 >>> ((0 : Int32) &&& 31) → _) ∧ (M 0 20 - M 0 22 = wlen 6 >>> ((0 : Int32) &&& 31) → _)
  rw [es, hl, nI_eq (by omega) (by omega)]
  have hlen : (wB 6).length = 6 := by decide
  refine ⟨fun c => ?_, fun c => ?_⟩
  · have e1 : ¬ wd t b e = wB 6 := fun q => c (by rw [← hlen]; exact (wd_iff.mp q).1)
    rw [decide_eq_false e1] at h
    exact ⟨1, fun _ => ⟨Or.inl rfl, h⟩, fun q => absurd rfl q⟩
  · have hq : decide (wd t b e = wB 6) = allB (fun n => decide (t (b + n) = (wB 6).getD n 0)) 6 := by
      rw [Bool.eq_iff_iff, decide_eq_true_eq, wd_iff, hlen, allB_iff]
      simp only [decide_eq_true_eq]
      exact ⟨fun q => q.2, fun q => ⟨c, q⟩⟩
    rw [hq] at h
    generalize hF : (fun n => decide (t (b + n) = (wB 6).getD n 0)) = F at h
    refine lpN (R := fun q k => P_M_isWord_w6_24 post q (bi (allB F k)) (nI k) M) (N := 6) (fun q => ?_) (fun q k hk ih => ?_)
    · refine b0n (fun c2 => ⟨bi_01 _, h⟩) (fun c2 => ?_)
      show (wlen 6 >>> ((0 : Int32) &&& 31) ≤ nI 6 → _) ∧ _
      rw [hl]
      exact brSt (N := 6) rfl ⟨bi_01 _, h⟩
    · refine b0n (fun c2 => ?_) (fun c2 => ?_)
      · rw [allB_le (Nat.le_of_lt hk) c2] at h
        rw [c2]; exact ⟨bi_01 _, h⟩
      · show (wlen 6 >>> ((0 : Int32) &&& 31) ≤ nI k → _) ∧ _
        rw [hl]
        refine brGo (N := 6) rfl (by omega) hk ?_
        have ea : M 0 22 + nI k = nI (b + k) := by rw [h22, nI_add]
        rw [ea]
        refine ⟨vin_nI (by omega) (by omega), vin_nI (N := 6) (by omega) (by omega), ?_, ?_⟩
        · show nI k < wlen 6
          rw [show wlen 6 = nI 6 from rfl, ltI, nI_toI (by omega), nI_toI (by omega)]; omega
        · rw [nI_clamp (by omega), nI_clamp (by omega), hch ⟨k, hk⟩, ht]
          have e5 : allB F (k + 1) = F k := by simp only [allB, c2, Bool.true_and]
          refine ⟨fun c3 => ?_, fun c3 => ?_⟩
          · have e6 : F k = false := by rw [← hF]; exact decide_eq_false c3
            rw [e5, e6, ← nI_1] at ih; exact ih
          · have e6 : F k = true := by rw [← hF]; exact decide_eq_true c3
            rw [e5, e6, ← nI_1] at ih; exact ih
theorem s_M_isWord_w7 {post : Int32 → Mem → Prop} {M : Mem} {t : Nat → Int32} {b e : Nat} (he : e ≤ 400) (hbe : b ≤ e) (h20 : M 0 20 = nI e) (h22 : M 0 22 = nI b) (ht : M 10 = t) (h : post (bi (decide (wd t b e = wB 7))) M) : P_M_isWord_w7 post M := by
  have hl : wlen 7 >>> ((0 : Int32) &&& 31) = nI 8 := by decide
  have es : M 0 20 - M 0 22 = nI (e - b) := by rw [h20, h22, nI_I, nI_I, I_sub, nI_I]; congr 1; omega
  have hch : ∀ k : Fin 8, i2c (wch 7 k.1 &&& 255) = (wB 7).getD k.1 0 := by decide
  show (¬ M 0 20 - M 0 22 = wlen 7 >>> ((0 : Int32) &&& 31) → _) ∧ (M 0 20 - M 0 22 = wlen 7 >>> ((0 : Int32) &&& 31) → _)
  rw [es, hl, nI_eq (by omega) (by omega)]
  have hlen : (wB 7).length = 8 := by decide
  refine ⟨fun c => ?_, fun c => ?_⟩
  · have e1 : ¬ wd t b e = wB 7 := fun q => c (by rw [← hlen]; exact (wd_iff.mp q).1)
    rw [decide_eq_false e1] at h
    exact ⟨1, fun _ => ⟨Or.inl rfl, h⟩, fun q => absurd rfl q⟩
  · have hq : decide (wd t b e = wB 7) = allB (fun n => decide (t (b + n) = (wB 7).getD n 0)) 8 := by
      rw [Bool.eq_iff_iff, decide_eq_true_eq, wd_iff, hlen, allB_iff]
      simp only [decide_eq_true_eq]
      exact ⟨fun q => q.2, fun q => ⟨c, q⟩⟩
    rw [hq] at h
    generalize hF : (fun n => decide (t (b + n) = (wB 7).getD n 0)) = F at h
    refine lpN (R := fun q k => P_M_isWord_w7_24 post q (bi (allB F k)) (nI k) M) (N := 8) (fun q => ?_) (fun q k hk ih => ?_)
    · refine b0n (fun c2 => ⟨bi_01 _, h⟩) (fun c2 => ?_)
      show (wlen 7 >>> ((0 : Int32) &&& 31) ≤ nI 8 → _) ∧ _
      rw [hl]
      exact brSt (N := 8) rfl ⟨bi_01 _, h⟩
    · refine b0n (fun c2 => ?_) (fun c2 => ?_)
      · rw [allB_le (Nat.le_of_lt hk) c2] at h
        rw [c2]; exact ⟨bi_01 _, h⟩
      · show (wlen 7 >>> ((0 : Int32) &&& 31) ≤ nI k → _) ∧ _
        rw [hl]
        refine brGo (N := 8) rfl (by omega) hk ?_
        have ea : M 0 22 + nI k = nI (b + k) := by rw [h22, nI_add]
        rw [ea]
        refine ⟨vin_nI (by omega) (by omega), vin_nI (N := 8) (by omega) (by omega), ?_, ?_⟩
        · show nI k < wlen 7
          rw [show wlen 7 = nI 8 from rfl, ltI, nI_toI (by omega), nI_toI (by omega)]; omega
        · rw [nI_clamp (by omega), nI_clamp (by omega), hch ⟨k, hk⟩, ht]
          have e5 : allB F (k + 1) = F k := by simp only [allB, c2, Bool.true_and]
          refine ⟨fun c3 => ?_, fun c3 => ?_⟩
          · have e6 : F k = false := by rw [← hF]; exact decide_eq_false c3
            rw [e5, e6, ← nI_1] at ih; exact ih
          · have e6 : F k = true := by rw [← hF]; exact decide_eq_true c3
            rw [e5, e6, ← nI_1] at ih; exact ih
theorem s_M_isWord_w8 {post : Int32 → Mem → Prop} {M : Mem} {t : Nat → Int32} {b e : Nat} (he : e ≤ 400) (hbe : b ≤ e) (h20 : M 0 20 = nI e) (h22 : M 0 22 = nI b) (ht : M 10 = t) (h : post (bi (decide (wd t b e = wB 8))) M) : P_M_isWord_w8 post M := by
  have hl : wlen 8 >>> ((0 : Int32) &&& 31) = nI 6 := by decide
  have es : M 0 20 - M 0 22 = nI (e - b) := by rw [h20, h22, nI_I, nI_I, I_sub, nI_I]; congr 1; omega
  have hch : ∀ k : Fin 6, i2c (wch 8 k.1 &&& 255) = (wB 8).getD k.1 0 := by decide
  show (¬ M 0 20 - M 0 22 = wlen 8 >>> ((0 : Int32) &&& 31) → _) ∧ (M 0 20 - M 0 22 = wlen 8 >>> ((0 : Int32) &&& 31) → _)
  rw [es, hl, nI_eq (by omega) (by omega)]
  have hlen : (wB 8).length = 6 := by decide
  refine ⟨fun c => ?_, fun c => ?_⟩
  · have e1 : ¬ wd t b e = wB 8 := fun q => c (by rw [← hlen]; exact (wd_iff.mp q).1)
    rw [decide_eq_false e1] at h
    exact ⟨1, fun _ => ⟨Or.inl rfl, h⟩, fun q => absurd rfl q⟩
  · have hq : decide (wd t b e = wB 8) = allB (fun n => decide (t (b + n) = (wB 8).getD n 0)) 6 := by
      rw [Bool.eq_iff_iff, decide_eq_true_eq, wd_iff, hlen, allB_iff]
      simp only [decide_eq_true_eq]
      exact ⟨fun q => q.2, fun q => ⟨c, q⟩⟩
    rw [hq] at h
    generalize hF : (fun n => decide (t (b + n) = (wB 8).getD n 0)) = F at h
    refine lpN (R := fun q k => P_M_isWord_w8_24 post q (bi (allB F k)) (nI k) M) (N := 6) (fun q => ?_) (fun q k hk ih => ?_)
    · refine b0n (fun c2 => ⟨bi_01 _, h⟩) (fun c2 => ?_)
      show (wlen 8 >>> ((0 : Int32) &&& 31) ≤ nI 6 → _) ∧ _
      rw [hl]
      exact brSt (N := 6) rfl ⟨bi_01 _, h⟩
    · refine b0n (fun c2 => ?_) (fun c2 => ?_)
      · rw [allB_le (Nat.le_of_lt hk) c2] at h
        rw [c2]; exact ⟨bi_01 _, h⟩
      · show (wlen 8 >>> ((0 : Int32) &&& 31) ≤ nI k → _) ∧ _
        rw [hl]
        refine brGo (N := 6) rfl (by omega) hk ?_
        have ea : M 0 22 + nI k = nI (b + k) := by rw [h22, nI_add]
        rw [ea]
        refine ⟨vin_nI (by omega) (by omega), vin_nI (N := 6) (by omega) (by omega), ?_, ?_⟩
        · show nI k < wlen 8
          rw [show wlen 8 = nI 6 from rfl, ltI, nI_toI (by omega), nI_toI (by omega)]; omega
        · rw [nI_clamp (by omega), nI_clamp (by omega), hch ⟨k, hk⟩, ht]
          have e5 : allB F (k + 1) = F k := by simp only [allB, c2, Bool.true_and]
          refine ⟨fun c3 => ?_, fun c3 => ?_⟩
          · have e6 : F k = false := by rw [← hF]; exact decide_eq_false c3
            rw [e5, e6, ← nI_1] at ih; exact ih
          · have e6 : F k = true := by rw [← hF]; exact decide_eq_true c3
            rw [e5, e6, ← nI_1] at ih; exact ih
theorem s_M_isWord_w9 {post : Int32 → Mem → Prop} {M : Mem} {t : Nat → Int32} {b e : Nat} (he : e ≤ 400) (hbe : b ≤ e) (h20 : M 0 20 = nI e) (h22 : M 0 22 = nI b) (ht : M 10 = t) (h : post (bi (decide (wd t b e = wB 9))) M) : P_M_isWord_w9 post M := by
  have hl : wlen 9 >>> ((0 : Int32) &&& 31) = nI 4 := by decide
  have es : M 0 20 - M 0 22 = nI (e - b) := by rw [h20, h22, nI_I, nI_I, I_sub, nI_I]; congr 1; omega
  have hch : ∀ k : Fin 4, i2c (wch 9 k.1 &&& 255) = (wB 9).getD k.1 0 := by decide
  show (¬ M 0 20 - M 0 22 = wlen 9 >>> ((0 : Int32) &&& 31) → _) ∧ (M 0 20 - M 0 22 = wlen 9 >>> ((0 : Int32) &&& 31) → _)
  rw [es, hl, nI_eq (by omega) (by omega)]
  have hlen : (wB 9).length = 4 := by decide
  refine ⟨fun c => ?_, fun c => ?_⟩
  · have e1 : ¬ wd t b e = wB 9 := fun q => c (by rw [← hlen]; exact (wd_iff.mp q).1)
    rw [decide_eq_false e1] at h
    exact ⟨1, fun _ => ⟨Or.inl rfl, h⟩, fun q => absurd rfl q⟩
  · have hq : decide (wd t b e = wB 9) = allB (fun n => decide (t (b + n) = (wB 9).getD n 0)) 4 := by
      rw [Bool.eq_iff_iff, decide_eq_true_eq, wd_iff, hlen, allB_iff]
      simp only [decide_eq_true_eq]
      exact ⟨fun q => q.2, fun q => ⟨c, q⟩⟩
    rw [hq] at h
    generalize hF : (fun n => decide (t (b + n) = (wB 9).getD n 0)) = F at h
    refine lpN (R := fun q k => P_M_isWord_w9_24 post q (bi (allB F k)) (nI k) M) (N := 4) (fun q => ?_) (fun q k hk ih => ?_)
    · refine b0n (fun c2 => ⟨bi_01 _, h⟩) (fun c2 => ?_)
      show (wlen 9 >>> ((0 : Int32) &&& 31) ≤ nI 4 → _) ∧ _
      rw [hl]
      exact brSt (N := 4) rfl ⟨bi_01 _, h⟩
    · refine b0n (fun c2 => ?_) (fun c2 => ?_)
      · rw [allB_le (Nat.le_of_lt hk) c2] at h
        rw [c2]; exact ⟨bi_01 _, h⟩
      · show (wlen 9 >>> ((0 : Int32) &&& 31) ≤ nI k → _) ∧ _
        rw [hl]
        refine brGo (N := 4) rfl (by omega) hk ?_
        have ea : M 0 22 + nI k = nI (b + k) := by rw [h22, nI_add]
        rw [ea]
        refine ⟨vin_nI (by omega) (by omega), vin_nI (N := 4) (by omega) (by omega), ?_, ?_⟩
        · show nI k < wlen 9
          rw [show wlen 9 = nI 4 from rfl, ltI, nI_toI (by omega), nI_toI (by omega)]; omega
        · rw [nI_clamp (by omega), nI_clamp (by omega), hch ⟨k, hk⟩, ht]
          have e5 : allB F (k + 1) = F k := by simp only [allB, c2, Bool.true_and]
          refine ⟨fun c3 => ?_, fun c3 => ?_⟩
          · have e6 : F k = false := by rw [← hF]; exact decide_eq_false c3
            rw [e5, e6, ← nI_1] at ih; exact ih
          · have e6 : F k = true := by rw [← hF]; exact decide_eq_true c3
            rw [e5, e6, ← nI_1] at ih; exact ih
/-- a test for a sign, or a word: what it leaves -/
def SgM (M0 : Mem) (L : Nat) (t : Nat → Int32) (d : Nat) (SG : (Int32 → Mem → Prop) → Mem → Prop) (k : Nat) : Prop := ∀ (post : Int32 → Mem → Prop) (M : Mem) (p : Nat) (c : List Nat), MR M0 L p d c M →
  (kdT t L (rn (isSp t) L p) = k → ∀ M' q, MR M0 L q d c M' → rn (isSp t) L q = nxT t L (rn (isSp t) L p) → M' 0 22 = nI (rn (isSp t) L p) → post 1 M') →
  (kdT t L (rn (isSp t) L p) ≠ k → ∀ M', MR M0 L (rn (isSp t) L p) d c M' → M' 0 22 = nI (rn (isSp t) L p) → post 0 M') → SG post M
theorem sg_M_sign {M0 : Mem} {L d : Nat} {t : Nat → Int32} {x : Int32} {k : Nat} (hL4 : L ≤ 400) (hL : M0 0 21 = nI L) (ht : M0 10 = t) (hk : (x, k) = (40, 14) ∨ (x, k) = (41, 15) ∨ (x, k) = (43, 9) ∨ (x, k) = (60, 10) ∨ (x, k) = (62, 11)) : SgM M0 L t d (fun post M => P_M_sign post x M) k :=
  fun post M p c hM h1 h0 => s_M_sign hL4 hL ht hM rfl hk h1 h0
theorem s_M_passes_w0 {M0 : Mem} {L d : Nat} {t : Nat → Int32} (hL4 : L ≤ 400) (hL : M0 0 21 = nI L) (ht : M0 10 = t) : SgM M0 L t d P_M_passes_w0 13 := by
  intro post M p c hM h1 h0
  have hbL : rn (isSp t) L p ≤ L := rn_le hM.2.2.1
  generalize hb : rn (isSp t) L p = b at *
  have hge := rn_ge (p := isLe t) hbL
  have hle := rn_le (p := isLe t) hbL
  have hkd := kd_w (t := t) (L := L) (b := b) (i := 0) hbL (by omega)
  refine s_M_letters hL4 hL ht hM (fun M1 a1 e1 => ?_)
  rw [hb] at a1 e1
  refine s_M_isWord_w0 (by omega) hge a1.2.1 e1 (a1.eT ht) ?_
  show (bi (isW t L b 0) = 0 → _) ∧ (¬ bi (isW t L b 0) = 0 → _)
  refine b0n (fun c2 => fun M3 m3 => ?_) (fun c2 => ?_)
  · rw [e1] at m3
    subst m3
    refine h0 (fun q => ?_) _ (a1.to hbL) (by rw [ms_ne _ _ _ (by omega)]; exact e1)
    have := hkd.mpr q
    rw [c2] at this; cases this
  · have hE := (w_end hbL (by omega) c2).2
    exact h1 (hkd.mp c2) M1 _ a1 (by unfold nxT; rw [hE]) e1
theorem s_M_passes_w1 {M0 : Mem} {L d : Nat} {t : Nat → Int32} (hL4 : L ≤ 400) (hL : M0 0 21 = nI L) (ht : M0 10 = t) : SgM M0 L t d P_M_passes_w1 12 := by
  intro post M p c hM h1 h0
  have hbL : rn (isSp t) L p ≤ L := rn_le hM.2.2.1
  generalize hb : rn (isSp t) L p = b at *
  have hge := rn_ge (p := isLe t) hbL
  have hle := rn_le (p := isLe t) hbL
  have hkd := kd_w (t := t) (L := L) (b := b) (i := 1) hbL (by omega)
  refine s_M_letters hL4 hL ht hM (fun M1 a1 e1 => ?_)
  rw [hb] at a1 e1
  refine s_M_isWord_w1 (by omega) hge a1.2.1 e1 (a1.eT ht) ?_
  show (bi (isW t L b 1) = 0 → _) ∧ (¬ bi (isW t L b 1) = 0 → _)
  refine b0n (fun c2 => fun M3 m3 => ?_) (fun c2 => ?_)
  · rw [e1] at m3
    subst m3
    refine h0 (fun q => ?_) _ (a1.to hbL) (by rw [ms_ne _ _ _ (by omega)]; exact e1)
    have := hkd.mpr q
    rw [c2] at this; cases this
  · have hE := (w_end hbL (by omega) c2).2
    exact h1 (hkd.mp c2) M1 _ a1 (by unfold nxT; rw [hE]) e1
theorem s_M_passes_w2 {M0 : Mem} {L d : Nat} {t : Nat → Int32} (hL4 : L ≤ 400) (hL : M0 0 21 = nI L) (ht : M0 10 = t) : SgM M0 L t d P_M_passes_w2 8 := by
  intro post M p c hM h1 h0
  have hbL : rn (isSp t) L p ≤ L := rn_le hM.2.2.1
  generalize hb : rn (isSp t) L p = b at *
  have hge := rn_ge (p := isLe t) hbL
  have hle := rn_le (p := isLe t) hbL
  have hkd := kd_w (t := t) (L := L) (b := b) (i := 2) hbL (by omega)
  refine s_M_letters hL4 hL ht hM (fun M1 a1 e1 => ?_)
  rw [hb] at a1 e1
  refine s_M_isWord_w2 (by omega) hge a1.2.1 e1 (a1.eT ht) ?_
  show (bi (isW t L b 2) = 0 → _) ∧ (¬ bi (isW t L b 2) = 0 → _)
  refine b0n (fun c2 => fun M3 m3 => ?_) (fun c2 => ?_)
  · rw [e1] at m3
    subst m3
    refine h0 (fun q => ?_) _ (a1.to hbL) (by rw [ms_ne _ _ _ (by omega)]; exact e1)
    have := hkd.mpr q
    rw [c2] at this; cases this
  · have hE := (w_end hbL (by omega) c2).2
    exact h1 (hkd.mp c2) M1 _ a1 (by unfold nxT; rw [hE]) e1
theorem s_M_passes_w3 {M0 : Mem} {L d : Nat} {t : Nat → Int32} (hL4 : L ≤ 400) (hL : M0 0 21 = nI L) (ht : M0 10 = t) : SgM M0 L t d P_M_passes_w3 6 := by
  intro post M p c hM h1 h0
  have hbL : rn (isSp t) L p ≤ L := rn_le hM.2.2.1
  generalize hb : rn (isSp t) L p = b at *
  have hge := rn_ge (p := isLe t) hbL
  have hle := rn_le (p := isLe t) hbL
  have hkd := kd_w (t := t) (L := L) (b := b) (i := 3) hbL (by omega)
  refine s_M_letters hL4 hL ht hM (fun M1 a1 e1 => ?_)
  rw [hb] at a1 e1
  refine s_M_isWord_w3 (by omega) hge a1.2.1 e1 (a1.eT ht) ?_
  show (bi (isW t L b 3) = 0 → _) ∧ (¬ bi (isW t L b 3) = 0 → _)
  refine b0n (fun c2 => fun M3 m3 => ?_) (fun c2 => ?_)
  · rw [e1] at m3
    subst m3
    refine h0 (fun q => ?_) _ (a1.to hbL) (by rw [ms_ne _ _ _ (by omega)]; exact e1)
    have := hkd.mpr q
    rw [c2] at this; cases this
  · have hE := (w_end hbL (by omega) c2).2
    exact h1 (hkd.mp c2) M1 _ a1 (by unfold nxT; rw [hE]) e1
theorem s_M_passes_w4 {M0 : Mem} {L d : Nat} {t : Nat → Int32} (hL4 : L ≤ 400) (hL : M0 0 21 = nI L) (ht : M0 10 = t) : SgM M0 L t d P_M_passes_w4 7 := by
  intro post M p c hM h1 h0
  have hbL : rn (isSp t) L p ≤ L := rn_le hM.2.2.1
  generalize hb : rn (isSp t) L p = b at *
  have hge := rn_ge (p := isLe t) hbL
  have hle := rn_le (p := isLe t) hbL
  have hkd := kd_w (t := t) (L := L) (b := b) (i := 4) hbL (by omega)
  refine s_M_letters hL4 hL ht hM (fun M1 a1 e1 => ?_)
  rw [hb] at a1 e1
  refine s_M_isWord_w4 (by omega) hge a1.2.1 e1 (a1.eT ht) ?_
  show (bi (isW t L b 4) = 0 → _) ∧ (¬ bi (isW t L b 4) = 0 → _)
  refine b0n (fun c2 => fun M3 m3 => ?_) (fun c2 => ?_)
  · rw [e1] at m3
    subst m3
    refine h0 (fun q => ?_) _ (a1.to hbL) (by rw [ms_ne _ _ _ (by omega)]; exact e1)
    have := hkd.mpr q
    rw [c2] at this; cases this
  · have hE := (w_end hbL (by omega) c2).2
    exact h1 (hkd.mp c2) M1 _ a1 (by unfold nxT; rw [hE]) e1
